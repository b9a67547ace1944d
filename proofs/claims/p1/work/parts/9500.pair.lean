/-! pairs of methods on the fresh memory -/
theorem pq_in {i : Int32} {k n : Nat} (h1 : ¬ i < 0) (h2 : ¬ Int32.ofNat k < i) (h3 : k + 1 = n ∧ n < 2 ^ 31) : vp_in i n := by
  obtain ⟨j, hj, rfl⟩ := nI_of h1
  obtain ⟨rfl, h3⟩ := h3
  refine vp_in_nI ?_ (by omega)
  apply Decidable.byContradiction
  intro hc
  exact h2 ((nI_ltI (by omega) hj).mpr (by omega))
theorem xw_thr {hp : mm_M → Nat → xm_H} {M : mm_M} {cs : xm_S} {x mc ms : Nat} {as r : List Value} {h : xm_H} {rc rs : Nat} {K : List Value → xm_H → Nat → Nat → Prop} {KX : String → xm_H → Nat → Nat → Prop} (E : String) (hs : (r.map fun v => v.category).sum ≤ 8) (h1 : mc ≤ rc) (h2 : ms ≤ rs) (hc : cs x as h mc ms (fun r h => r = .inr E ∧ ∃ z, h = hp M z)) (kx : ∀ z, KX E (hp M z) (rc - mc) (rs - ms)) : xm_call cs x as r h rc rs K KX :=
  ⟨hs, mc, ms, _, h1, h2, hc, fun w h9 q => (by cases q.1), fun E9 h9 q => by
    obtain ⟨q1, z, q2⟩ := q
    cases q1
    subst q2
    exact kx z⟩
theorem xw_hd {hh : List (Nat × Nat × Nat × Nat × String)} {a : Nat × Nat × Nat × Nat × String} {b : List (Nat × Nat × Nat × Nat × String)} {sv : xm_V} {post : xm_Q} {X : xm_X} {pc t : Nat} {L : xm_L} {E : String} {h : xm_H} {rc rs : Nat} (he : hh = a :: b) (h1 : ∀ e ∈ a :: b, e.2.2.2.2 = E ∨ (E, e.2.2.2.2) ∈ sv.2.2.2.2.1) (h2 : xm_hd pc E (a :: b) = some t) (k : ∀ q : Nat, X t L [.ref q] h rc rs) : xm_kx hh sv post X pc L E h rc rs := by
  subst he
  refine ⟨h1, ?_⟩
  rw [h2]
  exact k
section PK
variable {ac : Nat → ClassId} {lo : Nat} {ad as : Nat → Nat} {b L : Nat} {xs : Nat → Int32} {hp : mm_M → Nat → xm_H}
set_option maxRecDepth 100000 in
set_option maxHeartbeats 4000000 in
theorem pk_2 (H : mm_L ac lo hp) : ∀ (p0 : Int32), la_I ac lo ad as b L xs hp (fun M => M = mm_0) (fun _ => True) nm_X11_fault nm_X12_fault [.int p0] := by
  intro p0
  intro M z hM
  have hM : M = mm_0 := hM
  subst hM
  by_cases c0 : p0 = 0
  ·
    refine ⟨0, mm_0, (mm_i mm_0 108 (upd (mm_0.1 108) 0 0)), ?_, ?_, trivial⟩
    ·
      refine ⟨rfl, Nat.le_of_ble_eq_true rfl, Nat.le_of_ble_eq_true rfl, fun X hX => xm_run hX 100000 _ _ _ _ _ _ ?_⟩
      conv => whnf
      refine ⟨fun c => absurd c0 c, fun _ => ?_⟩
      conv => whnf
      rw [H.1]
      conv => whnf
      refine ⟨rfl, ?_⟩
      conv => whnf
      exact ⟨⟨.int, rfl, rfl⟩, rfl, rfl⟩
      all_goals rfl
    ·
      refine ⟨rfl, Nat.le_of_ble_eq_true rfl, Nat.le_of_ble_eq_true rfl, fun X hX => xm_run hX 100000 _ _ _ _ _ _ ?_⟩
      conv => whnf
      rw [H.1]
      conv => whnf
      refine ⟨rfl, Nat.le_add_right _ _, Nat.le_of_ble_eq_true rfl, ⟨rfl, rfl⟩, ?_⟩
      rw [H.2.2.1 _ _ 108 (upd (mm_0.1 108) 0 0)]
      conv => whnf
      refine ⟨fun c => absurd c0 c, fun _ => ?_⟩
      conv => whnf
      rw [H.1]
      conv => whnf
      refine ⟨rfl, ?_⟩
      conv => whnf
      exact ⟨⟨.int, rfl, rfl⟩, rfl, rfl⟩
      all_goals rfl
  ·
    by_cases c1 : p0 = 1
    ·
      refine ⟨0, mm_0, (mm_i mm_0 108 (upd (mm_0.1 108) 0 0)), ?_, ?_, trivial⟩
      ·
        refine ⟨rfl, Nat.le_of_ble_eq_true rfl, Nat.le_of_ble_eq_true rfl, fun X hX => xm_run hX 100000 _ _ _ _ _ _ ?_⟩
        conv => whnf
        refine ⟨fun _ => ?_, fun c => absurd c0 c⟩
        conv => whnf
        refine ⟨fun c => absurd c1 c, fun _ => ?_⟩
        conv => whnf
        rw [H.1]
        conv => whnf
        refine ⟨rfl, ?_⟩
        conv => whnf
        exact ⟨⟨.int, rfl, rfl⟩, rfl, rfl⟩
        all_goals rfl
      ·
        refine ⟨rfl, Nat.le_of_ble_eq_true rfl, Nat.le_of_ble_eq_true rfl, fun X hX => xm_run hX 100000 _ _ _ _ _ _ ?_⟩
        conv => whnf
        rw [H.1]
        conv => whnf
        refine ⟨rfl, Nat.le_add_right _ _, Nat.le_of_ble_eq_true rfl, ⟨rfl, rfl⟩, ?_⟩
        rw [H.2.2.1 _ _ 108 (upd (mm_0.1 108) 0 0)]
        conv => whnf
        refine ⟨fun _ => ?_, fun c => absurd c0 c⟩
        conv => whnf
        refine ⟨fun c => absurd c1 c, fun _ => ?_⟩
        conv => whnf
        rw [H.1]
        conv => whnf
        refine ⟨rfl, ?_⟩
        conv => whnf
        exact ⟨⟨.int, rfl, rfl⟩, rfl, rfl⟩
        all_goals rfl
    ·
      refine ⟨(-1), mm_0, (mm_i mm_0 108 (upd (mm_0.1 108) 0 0)), ?_, ?_, trivial⟩
      ·
        refine ⟨rfl, Nat.le_of_ble_eq_true rfl, Nat.le_of_ble_eq_true rfl, fun X hX => xm_run hX 100000 _ _ _ _ _ _ ?_⟩
        conv => whnf
        refine ⟨fun _ => ?_, fun c => absurd c0 c⟩
        conv => whnf
        refine ⟨fun _ => ?_, fun c => absurd c1 c⟩
        conv => whnf
        exact ⟨⟨.int, rfl, rfl⟩, rfl, rfl⟩
        all_goals rfl
      ·
        refine ⟨rfl, Nat.le_of_ble_eq_true rfl, Nat.le_of_ble_eq_true rfl, fun X hX => xm_run hX 100000 _ _ _ _ _ _ ?_⟩
        conv => whnf
        rw [H.1]
        conv => whnf
        refine ⟨rfl, Nat.le_add_right _ _, Nat.le_of_ble_eq_true rfl, ⟨rfl, rfl⟩, ?_⟩
        rw [H.2.2.1 _ _ 108 (upd (mm_0.1 108) 0 0)]
        conv => whnf
        refine ⟨fun _ => ?_, fun c => absurd c0 c⟩
        conv => whnf
        refine ⟨fun _ => ?_, fun c => absurd c1 c⟩
        conv => whnf
        exact ⟨⟨.int, rfl, rfl⟩, rfl, rfl⟩
        all_goals rfl
set_option maxRecDepth 100000 in
set_option maxHeartbeats 4000000 in
theorem pk_3 (H : mm_L ac lo hp) : la_V ac lo ad as b L xs hp (fun M => M = mm_0) (fun _ => True) nm_X11_clear nm_X12_clear [] := by
  intro M z hM
  have hM : M = mm_0 := hM
  subst hM
  refine ⟨(mm_i (mm_i (mm_i mm_0 9 (upd (mm_0.1 9) 7 0)) 17 (upd (mm_0.1 17) 5 (-1))) 39 (upd (mm_0.1 39) 6 0)), (mm_i (mm_i (mm_i (mm_i (mm_i (mm_i (mm_i mm_0 9 (upd (mm_0.1 9) 7 0)) 17 (upd (mm_0.1 17) 5 (-1))) 39 (upd (mm_0.1 39) 6 0)) 108 (upd (mm_0.1 108) 0 0)) 108 (upd (upd (mm_0.1 108) 0 0) 6 0)) 108 (upd (upd (upd (mm_0.1 108) 0 0) 6 0) 65 0)) 108 (upd (upd (upd (upd (mm_0.1 108) 0 0) 6 0) 65 0) 98 0)), ?_, ?_, trivial⟩
  ·
    refine ⟨rfl, Nat.le_of_ble_eq_true rfl, Nat.le_of_ble_eq_true rfl, fun X hX => xm_run hX 100000 _ _ _ _ _ _ ?_⟩
    conv => whnf
    rw [H.1]
    conv => whnf
    refine ⟨rfl, ?_⟩
    conv => whnf
    rw [H.1]
    conv => whnf
    refine ⟨rfl, Nat.le_add_right _ _, Nat.le_of_ble_eq_true rfl, ⟨rfl, rfl⟩, ?_⟩
    rw [H.2.2.1 _ _ 9 (upd (mm_0.1 9) 7 0)]
    conv => whnf
    rw [H.1]
    conv => whnf
    refine ⟨rfl, ?_⟩
    conv => whnf
    rw [H.1]
    conv => whnf
    refine ⟨rfl, Nat.le_add_right _ _, Nat.le_of_ble_eq_true rfl, ⟨rfl, rfl⟩, ?_⟩
    rw [H.2.2.1 _ _ 17 (upd (mm_0.1 17) 5 (-1))]
    conv => whnf
    rw [H.1]
    conv => whnf
    refine ⟨rfl, ?_⟩
    conv => whnf
    rw [H.1]
    conv => whnf
    refine ⟨rfl, Nat.le_add_right _ _, Nat.le_of_ble_eq_true rfl, ⟨rfl, rfl⟩, ?_⟩
    rw [H.2.2.1 _ _ 39 (upd (mm_0.1 39) 6 0)]
    conv => whnf
    exact ⟨rfl, rfl, rfl⟩
    all_goals rfl
  ·
    refine ⟨rfl, Nat.le_of_ble_eq_true rfl, Nat.le_of_ble_eq_true rfl, fun X hX => xm_run hX 100000 _ _ _ _ _ _ ?_⟩
    conv => whnf
    rw [H.1]
    conv => whnf
    refine ⟨rfl, Nat.le_add_right _ _, Nat.le_of_ble_eq_true rfl, ⟨rfl, rfl⟩, ?_⟩
    rw [H.2.2.1 _ _ 108 (upd (mm_0.1 108) 0 0)]
    conv => whnf
    rw [H.1]
    conv => whnf
    refine ⟨rfl, Nat.le_add_right _ _, Nat.le_of_ble_eq_true rfl, ⟨rfl, rfl⟩, ?_⟩
    rw [H.2.2.1 _ _ 108 (upd (upd (mm_0.1 108) 0 0) 6 0)]
    conv => whnf
    rw [H.1]
    conv => whnf
    refine ⟨rfl, Nat.le_add_right _ _, Nat.le_of_ble_eq_true rfl, ⟨rfl, rfl⟩, ?_⟩
    rw [H.2.2.1 _ _ 108 (upd (upd (upd (mm_0.1 108) 0 0) 6 0) 65 0)]
    conv => whnf
    rw [H.1]
    conv => whnf
    refine ⟨rfl, Nat.le_add_right _ _, Nat.le_of_ble_eq_true rfl, ⟨rfl, rfl⟩, ?_⟩
    rw [H.2.2.1 _ _ 108 (upd (upd (upd (upd (mm_0.1 108) 0 0) 6 0) 65 0) 98 0)]
    conv => whnf
    exact ⟨rfl, rfl, rfl⟩
    all_goals rfl
set_option maxRecDepth 100000 in
set_option maxHeartbeats 4000000 in
theorem pk_4 (H : mm_L ac lo hp) : ∀ (p0 : Int32) (p1 : Int32), la_I ac lo ad as b L xs hp (fun M => M = mm_0) (fun _ => True) nm_X11_look nm_X12_look [.int p0, .int p1] := by
  intro p0 p1
  intro M z hM
  have hM : M = mm_0 := hM
  subst hM
  by_cases c0 : p0 < 0
  ·
    refine ⟨(-1), mm_0, (mm_i mm_0 108 (upd (mm_0.1 108) 0 0)), ?_, ?_, trivial⟩
    ·
      refine ⟨rfl, Nat.le_of_ble_eq_true rfl, Nat.le_of_ble_eq_true rfl, fun X hX => xm_run hX 100000 _ _ _ _ _ _ ?_⟩
      conv => whnf
      rw [H.1]
      conv => whnf
      refine ⟨rfl, ?_⟩
      conv => whnf
      refine ⟨xw_O (by rw [H.1]; rfl), xw1 0 0 (Nat.le_of_ble_eq_true rfl) (Nat.zero_le _) (Nat.zero_le _) (show xm_M xp ac lo xp_fty xp_dfl (xp_sv ad as (b, L, xs)) 999 nm_X0_has [.ref (lo + 9), .int p0] (hp mm_0 z) 0 0 (xq1 (.int 0) (hp mm_0 z)) from by
          refine ⟨rfl, Nat.le_of_ble_eq_true rfl, Nat.le_of_ble_eq_true rfl, fun X hX => xm_run hX 100000 _ _ _ _ _ _ ?_⟩
          conv => whnf
          refine ⟨fun _ => ?_, fun c => absurd c0 c⟩
          conv => whnf
          exact ⟨⟨.boolean, rfl, rfl⟩, rfl, rfl⟩
          all_goals rfl
          ) ?_⟩
      conv => whnf
      refine ⟨fun c => absurd (by decide) c, fun _ => ?_⟩
      conv => whnf
      exact ⟨⟨.int, rfl, rfl⟩, rfl, rfl⟩
      all_goals rfl
    ·
      refine ⟨rfl, Nat.le_of_ble_eq_true rfl, Nat.le_of_ble_eq_true rfl, fun X hX => xm_run hX 100000 _ _ _ _ _ _ ?_⟩
      conv => whnf
      rw [H.1]
      conv => whnf
      refine ⟨rfl, Nat.le_add_right _ _, Nat.le_of_ble_eq_true rfl, ⟨rfl, rfl⟩, ?_⟩
      rw [H.2.2.1 _ _ 108 (upd (mm_0.1 108) 0 0)]
      conv => whnf
      refine ⟨xw_O (by rw [H.1]; rfl), xw1 0 0 (Nat.le_of_ble_eq_true rfl) (Nat.zero_le _) (Nat.zero_le _) (show xm_M xp ac lo xp_fty xp_dfl (xp_sv ad as (b, L, xs)) 999 nm_X12_isCircuit [.ref (lo + 108), .int p0] (hp (mm_i mm_0 108 (upd (mm_0.1 108) 0 0)) z) 0 0 (xq1 (.int 0) (hp (mm_i mm_0 108 (upd (mm_0.1 108) 0 0)) z)) from by
          refine ⟨rfl, Nat.le_of_ble_eq_true rfl, Nat.le_of_ble_eq_true rfl, fun X hX => xm_run hX 100000 _ _ _ _ _ _ ?_⟩
          conv => whnf
          refine ⟨fun _ => ?_, fun c => absurd c0 c⟩
          conv => whnf
          exact ⟨⟨.boolean, rfl, rfl⟩, rfl, rfl⟩
          all_goals rfl
          ) ?_⟩
      conv => whnf
      refine ⟨fun c => absurd (by decide) c, fun _ => ?_⟩
      conv => whnf
      exact ⟨⟨.int, rfl, rfl⟩, rfl, rfl⟩
      all_goals rfl
  ·
    refine ⟨(-1), mm_0, (mm_i mm_0 108 (upd (mm_0.1 108) 0 0)), ?_, ?_, trivial⟩
    ·
      refine ⟨rfl, Nat.le_of_ble_eq_true rfl, Nat.le_of_ble_eq_true rfl, fun X hX => xm_run hX 100000 _ _ _ _ _ _ ?_⟩
      conv => whnf
      rw [H.1]
      conv => whnf
      refine ⟨rfl, ?_⟩
      conv => whnf
      refine ⟨xw_O (by rw [H.1]; rfl), xw1 0 0 (Nat.le_of_ble_eq_true rfl) (Nat.zero_le _) (Nat.zero_le _) (show xm_M xp ac lo xp_fty xp_dfl (xp_sv ad as (b, L, xs)) 999 nm_X0_has [.ref (lo + 9), .int p0] (hp mm_0 z) 0 0 (xq1 (.int 0) (hp mm_0 z)) from by
          refine ⟨rfl, Nat.le_of_ble_eq_true rfl, Nat.le_of_ble_eq_true rfl, fun X hX => xm_run hX 100000 _ _ _ _ _ _ ?_⟩
          conv => whnf
          refine ⟨fun c => absurd c c0, fun _ => ?_⟩
          conv => whnf
          rw [H.1]
          conv => whnf
          refine ⟨rfl, ?_⟩
          conv => whnf
          refine ⟨fun _ => ?_, fun c => absurd (Int32.not_lt.mp c0) c⟩
          conv => whnf
          exact ⟨⟨.boolean, rfl, rfl⟩, rfl, rfl⟩
          all_goals rfl
          ) ?_⟩
      conv => whnf
      refine ⟨fun c => absurd (by decide) c, fun _ => ?_⟩
      conv => whnf
      exact ⟨⟨.int, rfl, rfl⟩, rfl, rfl⟩
      all_goals rfl
    ·
      refine ⟨rfl, Nat.le_of_ble_eq_true rfl, Nat.le_of_ble_eq_true rfl, fun X hX => xm_run hX 100000 _ _ _ _ _ _ ?_⟩
      conv => whnf
      rw [H.1]
      conv => whnf
      refine ⟨rfl, Nat.le_add_right _ _, Nat.le_of_ble_eq_true rfl, ⟨rfl, rfl⟩, ?_⟩
      rw [H.2.2.1 _ _ 108 (upd (mm_0.1 108) 0 0)]
      conv => whnf
      refine ⟨xw_O (by rw [H.1]; rfl), xw1 0 0 (Nat.le_of_ble_eq_true rfl) (Nat.zero_le _) (Nat.zero_le _) (show xm_M xp ac lo xp_fty xp_dfl (xp_sv ad as (b, L, xs)) 999 nm_X12_isCircuit [.ref (lo + 108), .int p0] (hp (mm_i mm_0 108 (upd (mm_0.1 108) 0 0)) z) 0 0 (xq1 (.int 0) (hp (mm_i mm_0 108 (upd (mm_0.1 108) 0 0)) z)) from by
          refine ⟨rfl, Nat.le_of_ble_eq_true rfl, Nat.le_of_ble_eq_true rfl, fun X hX => xm_run hX 100000 _ _ _ _ _ _ ?_⟩
          conv => whnf
          refine ⟨fun c => absurd c c0, fun _ => ?_⟩
          conv => whnf
          rw [H.1]
          conv => whnf
          refine ⟨rfl, ?_⟩
          conv => whnf
          refine ⟨fun _ => ?_, fun c => absurd (Int32.not_lt.mp c0) c⟩
          conv => whnf
          exact ⟨⟨.boolean, rfl, rfl⟩, rfl, rfl⟩
          all_goals rfl
          ) ?_⟩
      conv => whnf
      refine ⟨fun c => absurd (by decide) c, fun _ => ?_⟩
      conv => whnf
      exact ⟨⟨.int, rfl, rfl⟩, rfl, rfl⟩
      all_goals rfl
set_option maxRecDepth 100000 in
set_option maxHeartbeats 4000000 in
theorem pk_5 (H : mm_L ac lo hp) : ∀ (p0 : Int32) (p1 : Int32) (p2 : Int32), la_I ac lo ad as b L xs hp (fun M => M = mm_0) (fun _ => True) nm_X11_op nm_X12_op [.int p0, .int p1, .int p2] := by
  intro p0 p1 p2
  intro M z hM
  have hM : M = mm_0 := hM
  subst hM
  by_cases c0 : p0 < 0
  ·
    refine ⟨(-1), mm_0, (mm_i mm_0 108 (upd (mm_0.1 108) 0 0)), ?_, ?_, trivial⟩
    ·
      refine ⟨rfl, Nat.le_of_ble_eq_true rfl, Nat.le_of_ble_eq_true rfl, fun X hX => xm_run hX 100000 _ _ _ _ _ _ ?_⟩
      conv => whnf
      rw [H.1]
      conv => whnf
      refine ⟨rfl, ?_⟩
      conv => whnf
      refine ⟨xw_O (by rw [H.1]; rfl), xw1 0 0 (Nat.le_of_ble_eq_true rfl) (Nat.zero_le _) (Nat.zero_le _) (show xm_M xp ac lo xp_fty xp_dfl (xp_sv ad as (b, L, xs)) 999 nm_X0_hasOp [.ref (lo + 9), .int p0, .int p1] (hp mm_0 z) 0 0 (xq1 (.int 0) (hp mm_0 z)) from by
          refine ⟨rfl, Nat.le_of_ble_eq_true rfl, Nat.le_of_ble_eq_true rfl, fun X hX => xm_run hX 100000 _ _ _ _ _ _ ?_⟩
          conv => whnf
          refine ⟨xw_O (by rw [H.1]; rfl), xw1 0 0 (Nat.le_of_ble_eq_true rfl) (Nat.zero_le _) (Nat.zero_le _) (show xm_M xp ac lo xp_fty xp_dfl (xp_sv ad as (b, L, xs)) 998 nm_X0_has [.ref (lo + 9), .int p0] (hp mm_0 z) 0 0 (xq1 (.int 0) (hp mm_0 z)) from by
              refine ⟨rfl, Nat.le_of_ble_eq_true rfl, Nat.le_of_ble_eq_true rfl, fun X hX => xm_run hX 100000 _ _ _ _ _ _ ?_⟩
              conv => whnf
              refine ⟨fun _ => ?_, fun c => absurd c0 c⟩
              conv => whnf
              exact ⟨⟨.boolean, rfl, rfl⟩, rfl, rfl⟩
              all_goals rfl
              ) ?_⟩
          conv => whnf
          refine ⟨fun _ => ?_, fun c => absurd (by decide) c⟩
          conv => whnf
          exact ⟨⟨.boolean, rfl, rfl⟩, rfl, rfl⟩
          all_goals rfl
          ) ?_⟩
      conv => whnf
      refine ⟨fun c => absurd (by decide) c, fun _ => ?_⟩
      conv => whnf
      exact ⟨⟨.int, rfl, rfl⟩, rfl, rfl⟩
      all_goals rfl
    ·
      refine ⟨rfl, Nat.le_of_ble_eq_true rfl, Nat.le_of_ble_eq_true rfl, fun X hX => xm_run hX 100000 _ _ _ _ _ _ ?_⟩
      conv => whnf
      rw [H.1]
      conv => whnf
      refine ⟨rfl, Nat.le_add_right _ _, Nat.le_of_ble_eq_true rfl, ⟨rfl, rfl⟩, ?_⟩
      rw [H.2.2.1 _ _ 108 (upd (mm_0.1 108) 0 0)]
      conv => whnf
      refine ⟨xw_O (by rw [H.1]; rfl), xw1 0 0 (Nat.le_of_ble_eq_true rfl) (Nat.zero_le _) (Nat.zero_le _) (show xm_M xp ac lo xp_fty xp_dfl (xp_sv ad as (b, L, xs)) 999 nm_X12_isCircuit [.ref (lo + 108), .int p0] (hp (mm_i mm_0 108 (upd (mm_0.1 108) 0 0)) z) 0 0 (xq1 (.int 0) (hp (mm_i mm_0 108 (upd (mm_0.1 108) 0 0)) z)) from by
          refine ⟨rfl, Nat.le_of_ble_eq_true rfl, Nat.le_of_ble_eq_true rfl, fun X hX => xm_run hX 100000 _ _ _ _ _ _ ?_⟩
          conv => whnf
          refine ⟨fun _ => ?_, fun c => absurd c0 c⟩
          conv => whnf
          exact ⟨⟨.boolean, rfl, rfl⟩, rfl, rfl⟩
          all_goals rfl
          ) ?_⟩
      conv => whnf
      refine ⟨fun _ => ?_, fun c => absurd (by decide) c⟩
      conv => whnf
      exact ⟨⟨.int, rfl, rfl⟩, rfl, rfl⟩
      all_goals rfl
  ·
    refine ⟨(-1), mm_0, (mm_i mm_0 108 (upd (mm_0.1 108) 0 0)), ?_, ?_, trivial⟩
    ·
      refine ⟨rfl, Nat.le_of_ble_eq_true rfl, Nat.le_of_ble_eq_true rfl, fun X hX => xm_run hX 100000 _ _ _ _ _ _ ?_⟩
      conv => whnf
      rw [H.1]
      conv => whnf
      refine ⟨rfl, ?_⟩
      conv => whnf
      refine ⟨xw_O (by rw [H.1]; rfl), xw1 0 0 (Nat.le_of_ble_eq_true rfl) (Nat.zero_le _) (Nat.zero_le _) (show xm_M xp ac lo xp_fty xp_dfl (xp_sv ad as (b, L, xs)) 999 nm_X0_hasOp [.ref (lo + 9), .int p0, .int p1] (hp mm_0 z) 0 0 (xq1 (.int 0) (hp mm_0 z)) from by
          refine ⟨rfl, Nat.le_of_ble_eq_true rfl, Nat.le_of_ble_eq_true rfl, fun X hX => xm_run hX 100000 _ _ _ _ _ _ ?_⟩
          conv => whnf
          refine ⟨xw_O (by rw [H.1]; rfl), xw1 0 0 (Nat.le_of_ble_eq_true rfl) (Nat.zero_le _) (Nat.zero_le _) (show xm_M xp ac lo xp_fty xp_dfl (xp_sv ad as (b, L, xs)) 998 nm_X0_has [.ref (lo + 9), .int p0] (hp mm_0 z) 0 0 (xq1 (.int 0) (hp mm_0 z)) from by
              refine ⟨rfl, Nat.le_of_ble_eq_true rfl, Nat.le_of_ble_eq_true rfl, fun X hX => xm_run hX 100000 _ _ _ _ _ _ ?_⟩
              conv => whnf
              refine ⟨fun c => absurd c c0, fun _ => ?_⟩
              conv => whnf
              rw [H.1]
              conv => whnf
              refine ⟨rfl, ?_⟩
              conv => whnf
              refine ⟨fun _ => ?_, fun c => absurd (Int32.not_lt.mp c0) c⟩
              conv => whnf
              exact ⟨⟨.boolean, rfl, rfl⟩, rfl, rfl⟩
              all_goals rfl
              ) ?_⟩
          conv => whnf
          refine ⟨fun _ => ?_, fun c => absurd (by decide) c⟩
          conv => whnf
          exact ⟨⟨.boolean, rfl, rfl⟩, rfl, rfl⟩
          all_goals rfl
          ) ?_⟩
      conv => whnf
      refine ⟨fun c => absurd (by decide) c, fun _ => ?_⟩
      conv => whnf
      exact ⟨⟨.int, rfl, rfl⟩, rfl, rfl⟩
      all_goals rfl
    ·
      refine ⟨rfl, Nat.le_of_ble_eq_true rfl, Nat.le_of_ble_eq_true rfl, fun X hX => xm_run hX 100000 _ _ _ _ _ _ ?_⟩
      conv => whnf
      rw [H.1]
      conv => whnf
      refine ⟨rfl, Nat.le_add_right _ _, Nat.le_of_ble_eq_true rfl, ⟨rfl, rfl⟩, ?_⟩
      rw [H.2.2.1 _ _ 108 (upd (mm_0.1 108) 0 0)]
      conv => whnf
      refine ⟨xw_O (by rw [H.1]; rfl), xw1 0 0 (Nat.le_of_ble_eq_true rfl) (Nat.zero_le _) (Nat.zero_le _) (show xm_M xp ac lo xp_fty xp_dfl (xp_sv ad as (b, L, xs)) 999 nm_X12_isCircuit [.ref (lo + 108), .int p0] (hp (mm_i mm_0 108 (upd (mm_0.1 108) 0 0)) z) 0 0 (xq1 (.int 0) (hp (mm_i mm_0 108 (upd (mm_0.1 108) 0 0)) z)) from by
          refine ⟨rfl, Nat.le_of_ble_eq_true rfl, Nat.le_of_ble_eq_true rfl, fun X hX => xm_run hX 100000 _ _ _ _ _ _ ?_⟩
          conv => whnf
          refine ⟨fun c => absurd c c0, fun _ => ?_⟩
          conv => whnf
          rw [H.1]
          conv => whnf
          refine ⟨rfl, ?_⟩
          conv => whnf
          refine ⟨fun _ => ?_, fun c => absurd (Int32.not_lt.mp c0) c⟩
          conv => whnf
          exact ⟨⟨.boolean, rfl, rfl⟩, rfl, rfl⟩
          all_goals rfl
          ) ?_⟩
      conv => whnf
      refine ⟨fun _ => ?_, fun c => absurd (by decide) c⟩
      conv => whnf
      exact ⟨⟨.int, rfl, rfl⟩, rfl, rfl⟩
      all_goals rfl
set_option maxRecDepth 100000 in
set_option maxHeartbeats 4000000 in
theorem pk_6 (H : mm_L ac lo hp) : ∀ (p0 : Int32) (p1 : Int32), la_I ac lo ad as b L xs hp (fun M => M = mm_0) (fun _ => True) nm_X11_written nm_X12_written [.int p0, .int p1] := by
  intro p0 p1
  intro M z hM
  have hM : M = mm_0 := hM
  subst hM
  by_cases c0 : p0 < 0
  ·
    refine ⟨(-1), mm_0, (mm_i mm_0 108 (upd (mm_0.1 108) 0 0)), ?_, ?_, trivial⟩
    ·
      refine ⟨rfl, Nat.le_of_ble_eq_true rfl, Nat.le_of_ble_eq_true rfl, fun X hX => xm_run hX 100000 _ _ _ _ _ _ ?_⟩
      conv => whnf
      rw [H.1]
      conv => whnf
      refine ⟨rfl, ?_⟩
      conv => whnf
      refine ⟨xw_O (by rw [H.1]; rfl), xw1 0 0 (Nat.le_of_ble_eq_true rfl) (Nat.zero_le _) (Nat.zero_le _) (show xm_M xp ac lo xp_fty xp_dfl (xp_sv ad as (b, L, xs)) 999 nm_X0_has [.ref (lo + 9), .int p0] (hp mm_0 z) 0 0 (xq1 (.int 0) (hp mm_0 z)) from by
          refine ⟨rfl, Nat.le_of_ble_eq_true rfl, Nat.le_of_ble_eq_true rfl, fun X hX => xm_run hX 100000 _ _ _ _ _ _ ?_⟩
          conv => whnf
          refine ⟨fun _ => ?_, fun c => absurd c0 c⟩
          conv => whnf
          exact ⟨⟨.boolean, rfl, rfl⟩, rfl, rfl⟩
          all_goals rfl
          ) ?_⟩
      conv => whnf
      refine ⟨fun _ => ?_, fun c => absurd (by decide) c⟩
      conv => whnf
      exact ⟨⟨.int, rfl, rfl⟩, rfl, rfl⟩
      all_goals rfl
    ·
      refine ⟨rfl, Nat.le_of_ble_eq_true rfl, Nat.le_of_ble_eq_true rfl, fun X hX => xm_run hX 100000 _ _ _ _ _ _ ?_⟩
      conv => whnf
      rw [H.1]
      conv => whnf
      refine ⟨rfl, Nat.le_add_right _ _, Nat.le_of_ble_eq_true rfl, ⟨rfl, rfl⟩, ?_⟩
      rw [H.2.2.1 _ _ 108 (upd (mm_0.1 108) 0 0)]
      conv => whnf
      refine ⟨xw_O (by rw [H.1]; rfl), xw1 0 0 (Nat.le_of_ble_eq_true rfl) (Nat.zero_le _) (Nat.zero_le _) (show xm_M xp ac lo xp_fty xp_dfl (xp_sv ad as (b, L, xs)) 999 nm_X12_isCircuit [.ref (lo + 108), .int p0] (hp (mm_i mm_0 108 (upd (mm_0.1 108) 0 0)) z) 0 0 (xq1 (.int 0) (hp (mm_i mm_0 108 (upd (mm_0.1 108) 0 0)) z)) from by
          refine ⟨rfl, Nat.le_of_ble_eq_true rfl, Nat.le_of_ble_eq_true rfl, fun X hX => xm_run hX 100000 _ _ _ _ _ _ ?_⟩
          conv => whnf
          refine ⟨fun _ => ?_, fun c => absurd c0 c⟩
          conv => whnf
          exact ⟨⟨.boolean, rfl, rfl⟩, rfl, rfl⟩
          all_goals rfl
          ) ?_⟩
      conv => whnf
      refine ⟨fun c => absurd (by decide) c, fun _ => ?_⟩
      conv => whnf
      exact ⟨⟨.int, rfl, rfl⟩, rfl, rfl⟩
      all_goals rfl
  ·
    refine ⟨(-1), mm_0, (mm_i mm_0 108 (upd (mm_0.1 108) 0 0)), ?_, ?_, trivial⟩
    ·
      refine ⟨rfl, Nat.le_of_ble_eq_true rfl, Nat.le_of_ble_eq_true rfl, fun X hX => xm_run hX 100000 _ _ _ _ _ _ ?_⟩
      conv => whnf
      rw [H.1]
      conv => whnf
      refine ⟨rfl, ?_⟩
      conv => whnf
      refine ⟨xw_O (by rw [H.1]; rfl), xw1 0 0 (Nat.le_of_ble_eq_true rfl) (Nat.zero_le _) (Nat.zero_le _) (show xm_M xp ac lo xp_fty xp_dfl (xp_sv ad as (b, L, xs)) 999 nm_X0_has [.ref (lo + 9), .int p0] (hp mm_0 z) 0 0 (xq1 (.int 0) (hp mm_0 z)) from by
          refine ⟨rfl, Nat.le_of_ble_eq_true rfl, Nat.le_of_ble_eq_true rfl, fun X hX => xm_run hX 100000 _ _ _ _ _ _ ?_⟩
          conv => whnf
          refine ⟨fun c => absurd c c0, fun _ => ?_⟩
          conv => whnf
          rw [H.1]
          conv => whnf
          refine ⟨rfl, ?_⟩
          conv => whnf
          refine ⟨fun _ => ?_, fun c => absurd (Int32.not_lt.mp c0) c⟩
          conv => whnf
          exact ⟨⟨.boolean, rfl, rfl⟩, rfl, rfl⟩
          all_goals rfl
          ) ?_⟩
      conv => whnf
      refine ⟨fun _ => ?_, fun c => absurd (by decide) c⟩
      conv => whnf
      exact ⟨⟨.int, rfl, rfl⟩, rfl, rfl⟩
      all_goals rfl
    ·
      refine ⟨rfl, Nat.le_of_ble_eq_true rfl, Nat.le_of_ble_eq_true rfl, fun X hX => xm_run hX 100000 _ _ _ _ _ _ ?_⟩
      conv => whnf
      rw [H.1]
      conv => whnf
      refine ⟨rfl, Nat.le_add_right _ _, Nat.le_of_ble_eq_true rfl, ⟨rfl, rfl⟩, ?_⟩
      rw [H.2.2.1 _ _ 108 (upd (mm_0.1 108) 0 0)]
      conv => whnf
      refine ⟨xw_O (by rw [H.1]; rfl), xw1 0 0 (Nat.le_of_ble_eq_true rfl) (Nat.zero_le _) (Nat.zero_le _) (show xm_M xp ac lo xp_fty xp_dfl (xp_sv ad as (b, L, xs)) 999 nm_X12_isCircuit [.ref (lo + 108), .int p0] (hp (mm_i mm_0 108 (upd (mm_0.1 108) 0 0)) z) 0 0 (xq1 (.int 0) (hp (mm_i mm_0 108 (upd (mm_0.1 108) 0 0)) z)) from by
          refine ⟨rfl, Nat.le_of_ble_eq_true rfl, Nat.le_of_ble_eq_true rfl, fun X hX => xm_run hX 100000 _ _ _ _ _ _ ?_⟩
          conv => whnf
          refine ⟨fun c => absurd c c0, fun _ => ?_⟩
          conv => whnf
          rw [H.1]
          conv => whnf
          refine ⟨rfl, ?_⟩
          conv => whnf
          refine ⟨fun _ => ?_, fun c => absurd (Int32.not_lt.mp c0) c⟩
          conv => whnf
          exact ⟨⟨.boolean, rfl, rfl⟩, rfl, rfl⟩
          all_goals rfl
          ) ?_⟩
      conv => whnf
      refine ⟨fun c => absurd (by decide) c, fun _ => ?_⟩
      conv => whnf
      exact ⟨⟨.int, rfl, rfl⟩, rfl, rfl⟩
      all_goals rfl
set_option maxRecDepth 100000 in
set_option maxHeartbeats 4000000 in
theorem pk_7 (H : mm_L ac lo hp) : ∀ (p0 : Int32) (p1 : Int32) (p2 : Int32), la_I ac lo ad as b L xs hp (fun M => M = mm_0) (fun _ => True) nm_X11_derive nm_X12_derive [.int p0, .int p1, .int p2] := by
  intro p0 p1 p2
  intro M z hM
  have hM : M = mm_0 := hM
  subst hM
  by_cases c0 : p0 = 1
  ·
    by_cases c1 : p0 < 0
    ·
      exfalso; simp only [Int32.lt_iff_toInt_lt, ← Int32.toInt_inj, (show (0 : Int32).toInt = 0 from rfl), (show (1 : Int32).toInt = 1 from rfl)] at c0 c1; omega
    ·
      by_cases c2 : 6 < p0
      ·
        exfalso; simp only [Int32.lt_iff_toInt_lt, ← Int32.toInt_inj, (show (0 : Int32).toInt = 0 from rfl), (show (1 : Int32).toInt = 1 from rfl), (show (6 : Int32).toInt = 6 from rfl)] at c0 c1 c2; omega
      ·
        by_cases c3 : p1 < 0
        ·
          refine ⟨(-1), mm_0, (mm_i mm_0 108 (upd (mm_0.1 108) 0 0)), ?_, ?_, trivial⟩
          ·
            refine ⟨rfl, Nat.le_of_ble_eq_true rfl, Nat.le_of_ble_eq_true rfl, fun X hX => xm_run hX 100000 _ _ _ _ _ _ ?_⟩
            conv => whnf
            refine ⟨fun _ => ?_, fun c => absurd c0 c⟩
            conv => whnf
            refine ⟨Nat.le_of_ble_eq_true rfl, ?_⟩
            conv => whnf
            refine ⟨fun c => absurd c c1, fun _ => ?_⟩
            conv => whnf
            refine ⟨fun c => absurd c c2, fun _ => ?_⟩
            conv => whnf
            rw [H.1]
            conv => whnf
            refine ⟨rfl, ?_⟩
            conv => whnf
            refine ⟨xw_O (by rw [H.1]; rfl), xw1 0 0 (Nat.le_of_ble_eq_true rfl) (Nat.zero_le _) (Nat.zero_le _) (show xm_M xp ac lo xp_fty xp_dfl (xp_sv ad as (b, L, xs)) 999 nm_X0_has [.ref (lo + 9), .int p1] (hp mm_0 z) 0 0 (xq1 (.int 0) (hp mm_0 z)) from by
                refine ⟨rfl, Nat.le_of_ble_eq_true rfl, Nat.le_of_ble_eq_true rfl, fun X hX => xm_run hX 100000 _ _ _ _ _ _ ?_⟩
                conv => whnf
                refine ⟨fun _ => ?_, fun c => absurd c3 c⟩
                conv => whnf
                exact ⟨⟨.boolean, rfl, rfl⟩, rfl, rfl⟩
                all_goals rfl
                ) ?_⟩
            conv => whnf
            refine ⟨fun _ => ?_, fun c => absurd (by decide) c⟩
            conv => whnf
            exact ⟨⟨.int, rfl, rfl⟩, rfl, rfl⟩
            all_goals rfl
          ·
            refine ⟨rfl, Nat.le_of_ble_eq_true rfl, Nat.le_of_ble_eq_true rfl, fun X hX => xm_run hX 100000 _ _ _ _ _ _ ?_⟩
            conv => whnf
            rw [H.1]
            conv => whnf
            refine ⟨rfl, Nat.le_add_right _ _, Nat.le_of_ble_eq_true rfl, ⟨rfl, rfl⟩, ?_⟩
            rw [H.2.2.1 _ _ 108 (upd (mm_0.1 108) 0 0)]
            conv => whnf
            refine ⟨fun _ => ?_, fun c => absurd c0 c⟩
            conv => whnf
            refine ⟨Nat.le_of_ble_eq_true rfl, ?_⟩
            conv => whnf
            refine ⟨fun c => absurd c c1, fun _ => ?_⟩
            conv => whnf
            refine ⟨fun c => absurd c c2, fun _ => ?_⟩
            conv => whnf
            refine ⟨xw_O (by rw [H.1]; rfl), xw1 0 0 (Nat.le_of_ble_eq_true rfl) (Nat.zero_le _) (Nat.zero_le _) (show xm_M xp ac lo xp_fty xp_dfl (xp_sv ad as (b, L, xs)) 999 nm_X12_isCircuit [.ref (lo + 108), .int p1] (hp (mm_i mm_0 108 (upd (mm_0.1 108) 0 0)) z) 0 0 (xq1 (.int 0) (hp (mm_i mm_0 108 (upd (mm_0.1 108) 0 0)) z)) from by
                refine ⟨rfl, Nat.le_of_ble_eq_true rfl, Nat.le_of_ble_eq_true rfl, fun X hX => xm_run hX 100000 _ _ _ _ _ _ ?_⟩
                conv => whnf
                refine ⟨fun _ => ?_, fun c => absurd c3 c⟩
                conv => whnf
                exact ⟨⟨.boolean, rfl, rfl⟩, rfl, rfl⟩
                all_goals rfl
                ) ?_⟩
            conv => whnf
            refine ⟨fun _ => ?_, fun c => absurd (by decide) c⟩
            conv => whnf
            exact ⟨⟨.int, rfl, rfl⟩, rfl, rfl⟩
            all_goals rfl
        ·
          refine ⟨(-1), mm_0, (mm_i mm_0 108 (upd (mm_0.1 108) 0 0)), ?_, ?_, trivial⟩
          ·
            refine ⟨rfl, Nat.le_of_ble_eq_true rfl, Nat.le_of_ble_eq_true rfl, fun X hX => xm_run hX 100000 _ _ _ _ _ _ ?_⟩
            conv => whnf
            refine ⟨fun _ => ?_, fun c => absurd c0 c⟩
            conv => whnf
            refine ⟨Nat.le_of_ble_eq_true rfl, ?_⟩
            conv => whnf
            refine ⟨fun c => absurd c c1, fun _ => ?_⟩
            conv => whnf
            refine ⟨fun c => absurd c c2, fun _ => ?_⟩
            conv => whnf
            rw [H.1]
            conv => whnf
            refine ⟨rfl, ?_⟩
            conv => whnf
            refine ⟨xw_O (by rw [H.1]; rfl), xw1 0 0 (Nat.le_of_ble_eq_true rfl) (Nat.zero_le _) (Nat.zero_le _) (show xm_M xp ac lo xp_fty xp_dfl (xp_sv ad as (b, L, xs)) 999 nm_X0_has [.ref (lo + 9), .int p1] (hp mm_0 z) 0 0 (xq1 (.int 0) (hp mm_0 z)) from by
                refine ⟨rfl, Nat.le_of_ble_eq_true rfl, Nat.le_of_ble_eq_true rfl, fun X hX => xm_run hX 100000 _ _ _ _ _ _ ?_⟩
                conv => whnf
                refine ⟨fun c => absurd c c3, fun _ => ?_⟩
                conv => whnf
                rw [H.1]
                conv => whnf
                refine ⟨rfl, ?_⟩
                conv => whnf
                refine ⟨fun _ => ?_, fun c => absurd (Int32.not_lt.mp c3) c⟩
                conv => whnf
                exact ⟨⟨.boolean, rfl, rfl⟩, rfl, rfl⟩
                all_goals rfl
                ) ?_⟩
            conv => whnf
            refine ⟨fun _ => ?_, fun c => absurd (by decide) c⟩
            conv => whnf
            exact ⟨⟨.int, rfl, rfl⟩, rfl, rfl⟩
            all_goals rfl
          ·
            refine ⟨rfl, Nat.le_of_ble_eq_true rfl, Nat.le_of_ble_eq_true rfl, fun X hX => xm_run hX 100000 _ _ _ _ _ _ ?_⟩
            conv => whnf
            rw [H.1]
            conv => whnf
            refine ⟨rfl, Nat.le_add_right _ _, Nat.le_of_ble_eq_true rfl, ⟨rfl, rfl⟩, ?_⟩
            rw [H.2.2.1 _ _ 108 (upd (mm_0.1 108) 0 0)]
            conv => whnf
            refine ⟨fun _ => ?_, fun c => absurd c0 c⟩
            conv => whnf
            refine ⟨Nat.le_of_ble_eq_true rfl, ?_⟩
            conv => whnf
            refine ⟨fun c => absurd c c1, fun _ => ?_⟩
            conv => whnf
            refine ⟨fun c => absurd c c2, fun _ => ?_⟩
            conv => whnf
            refine ⟨xw_O (by rw [H.1]; rfl), xw1 0 0 (Nat.le_of_ble_eq_true rfl) (Nat.zero_le _) (Nat.zero_le _) (show xm_M xp ac lo xp_fty xp_dfl (xp_sv ad as (b, L, xs)) 999 nm_X12_isCircuit [.ref (lo + 108), .int p1] (hp (mm_i mm_0 108 (upd (mm_0.1 108) 0 0)) z) 0 0 (xq1 (.int 0) (hp (mm_i mm_0 108 (upd (mm_0.1 108) 0 0)) z)) from by
                refine ⟨rfl, Nat.le_of_ble_eq_true rfl, Nat.le_of_ble_eq_true rfl, fun X hX => xm_run hX 100000 _ _ _ _ _ _ ?_⟩
                conv => whnf
                refine ⟨fun c => absurd c c3, fun _ => ?_⟩
                conv => whnf
                rw [H.1]
                conv => whnf
                refine ⟨rfl, ?_⟩
                conv => whnf
                refine ⟨fun _ => ?_, fun c => absurd (Int32.not_lt.mp c3) c⟩
                conv => whnf
                exact ⟨⟨.boolean, rfl, rfl⟩, rfl, rfl⟩
                all_goals rfl
                ) ?_⟩
            conv => whnf
            refine ⟨fun _ => ?_, fun c => absurd (by decide) c⟩
            conv => whnf
            exact ⟨⟨.int, rfl, rfl⟩, rfl, rfl⟩
            all_goals rfl
  ·
    by_cases c1 : p0 = 3
    ·
      by_cases c2 : p0 < 0
      ·
        exfalso; simp only [Int32.lt_iff_toInt_lt, ← Int32.toInt_inj, (show (0 : Int32).toInt = 0 from rfl), (show (1 : Int32).toInt = 1 from rfl), (show (3 : Int32).toInt = 3 from rfl)] at c0 c1 c2; omega
      ·
        by_cases c3 : 6 < p0
        ·
          exfalso; simp only [Int32.lt_iff_toInt_lt, ← Int32.toInt_inj, (show (0 : Int32).toInt = 0 from rfl), (show (1 : Int32).toInt = 1 from rfl), (show (3 : Int32).toInt = 3 from rfl), (show (6 : Int32).toInt = 6 from rfl)] at c0 c1 c2 c3; omega
        ·
          by_cases c4 : p1 < 0
          ·
            refine ⟨(-1), mm_0, (mm_i mm_0 108 (upd (mm_0.1 108) 0 0)), ?_, ?_, trivial⟩
            ·
              refine ⟨rfl, Nat.le_of_ble_eq_true rfl, Nat.le_of_ble_eq_true rfl, fun X hX => xm_run hX 100000 _ _ _ _ _ _ ?_⟩
              conv => whnf
              refine ⟨fun c => absurd c c0, fun _ => ?_⟩
              conv => whnf
              refine ⟨fun c => absurd c1 c, fun _ => ?_⟩
              conv => whnf
              refine ⟨Nat.le_of_ble_eq_true rfl, ?_⟩
              conv => whnf
              refine ⟨fun c => absurd c c2, fun _ => ?_⟩
              conv => whnf
              refine ⟨fun c => absurd c c3, fun _ => ?_⟩
              conv => whnf
              rw [H.1]
              conv => whnf
              refine ⟨rfl, ?_⟩
              conv => whnf
              refine ⟨xw_O (by rw [H.1]; rfl), xw1 0 0 (Nat.le_of_ble_eq_true rfl) (Nat.zero_le _) (Nat.zero_le _) (show xm_M xp ac lo xp_fty xp_dfl (xp_sv ad as (b, L, xs)) 999 nm_X0_has [.ref (lo + 9), .int p1] (hp mm_0 z) 0 0 (xq1 (.int 0) (hp mm_0 z)) from by
                  refine ⟨rfl, Nat.le_of_ble_eq_true rfl, Nat.le_of_ble_eq_true rfl, fun X hX => xm_run hX 100000 _ _ _ _ _ _ ?_⟩
                  conv => whnf
                  refine ⟨fun _ => ?_, fun c => absurd c4 c⟩
                  conv => whnf
                  exact ⟨⟨.boolean, rfl, rfl⟩, rfl, rfl⟩
                  all_goals rfl
                  ) ?_⟩
              conv => whnf
              refine ⟨fun _ => ?_, fun c => absurd (by decide) c⟩
              conv => whnf
              exact ⟨⟨.int, rfl, rfl⟩, rfl, rfl⟩
              all_goals rfl
            ·
              refine ⟨rfl, Nat.le_of_ble_eq_true rfl, Nat.le_of_ble_eq_true rfl, fun X hX => xm_run hX 100000 _ _ _ _ _ _ ?_⟩
              conv => whnf
              rw [H.1]
              conv => whnf
              refine ⟨rfl, Nat.le_add_right _ _, Nat.le_of_ble_eq_true rfl, ⟨rfl, rfl⟩, ?_⟩
              rw [H.2.2.1 _ _ 108 (upd (mm_0.1 108) 0 0)]
              conv => whnf
              refine ⟨fun c => absurd c c0, fun _ => ?_⟩
              conv => whnf
              refine ⟨fun c => absurd c1 c, fun _ => ?_⟩
              conv => whnf
              refine ⟨Nat.le_of_ble_eq_true rfl, ?_⟩
              conv => whnf
              refine ⟨fun c => absurd c c2, fun _ => ?_⟩
              conv => whnf
              refine ⟨fun c => absurd c c3, fun _ => ?_⟩
              conv => whnf
              refine ⟨xw_O (by rw [H.1]; rfl), xw1 0 0 (Nat.le_of_ble_eq_true rfl) (Nat.zero_le _) (Nat.zero_le _) (show xm_M xp ac lo xp_fty xp_dfl (xp_sv ad as (b, L, xs)) 999 nm_X12_isCircuit [.ref (lo + 108), .int p1] (hp (mm_i mm_0 108 (upd (mm_0.1 108) 0 0)) z) 0 0 (xq1 (.int 0) (hp (mm_i mm_0 108 (upd (mm_0.1 108) 0 0)) z)) from by
                  refine ⟨rfl, Nat.le_of_ble_eq_true rfl, Nat.le_of_ble_eq_true rfl, fun X hX => xm_run hX 100000 _ _ _ _ _ _ ?_⟩
                  conv => whnf
                  refine ⟨fun _ => ?_, fun c => absurd c4 c⟩
                  conv => whnf
                  exact ⟨⟨.boolean, rfl, rfl⟩, rfl, rfl⟩
                  all_goals rfl
                  ) ?_⟩
              conv => whnf
              refine ⟨fun _ => ?_, fun c => absurd (by decide) c⟩
              conv => whnf
              exact ⟨⟨.int, rfl, rfl⟩, rfl, rfl⟩
              all_goals rfl
          ·
            refine ⟨(-1), mm_0, (mm_i mm_0 108 (upd (mm_0.1 108) 0 0)), ?_, ?_, trivial⟩
            ·
              refine ⟨rfl, Nat.le_of_ble_eq_true rfl, Nat.le_of_ble_eq_true rfl, fun X hX => xm_run hX 100000 _ _ _ _ _ _ ?_⟩
              conv => whnf
              refine ⟨fun c => absurd c c0, fun _ => ?_⟩
              conv => whnf
              refine ⟨fun c => absurd c1 c, fun _ => ?_⟩
              conv => whnf
              refine ⟨Nat.le_of_ble_eq_true rfl, ?_⟩
              conv => whnf
              refine ⟨fun c => absurd c c2, fun _ => ?_⟩
              conv => whnf
              refine ⟨fun c => absurd c c3, fun _ => ?_⟩
              conv => whnf
              rw [H.1]
              conv => whnf
              refine ⟨rfl, ?_⟩
              conv => whnf
              refine ⟨xw_O (by rw [H.1]; rfl), xw1 0 0 (Nat.le_of_ble_eq_true rfl) (Nat.zero_le _) (Nat.zero_le _) (show xm_M xp ac lo xp_fty xp_dfl (xp_sv ad as (b, L, xs)) 999 nm_X0_has [.ref (lo + 9), .int p1] (hp mm_0 z) 0 0 (xq1 (.int 0) (hp mm_0 z)) from by
                  refine ⟨rfl, Nat.le_of_ble_eq_true rfl, Nat.le_of_ble_eq_true rfl, fun X hX => xm_run hX 100000 _ _ _ _ _ _ ?_⟩
                  conv => whnf
                  refine ⟨fun c => absurd c c4, fun _ => ?_⟩
                  conv => whnf
                  rw [H.1]
                  conv => whnf
                  refine ⟨rfl, ?_⟩
                  conv => whnf
                  refine ⟨fun _ => ?_, fun c => absurd (Int32.not_lt.mp c4) c⟩
                  conv => whnf
                  exact ⟨⟨.boolean, rfl, rfl⟩, rfl, rfl⟩
                  all_goals rfl
                  ) ?_⟩
              conv => whnf
              refine ⟨fun _ => ?_, fun c => absurd (by decide) c⟩
              conv => whnf
              exact ⟨⟨.int, rfl, rfl⟩, rfl, rfl⟩
              all_goals rfl
            ·
              refine ⟨rfl, Nat.le_of_ble_eq_true rfl, Nat.le_of_ble_eq_true rfl, fun X hX => xm_run hX 100000 _ _ _ _ _ _ ?_⟩
              conv => whnf
              rw [H.1]
              conv => whnf
              refine ⟨rfl, Nat.le_add_right _ _, Nat.le_of_ble_eq_true rfl, ⟨rfl, rfl⟩, ?_⟩
              rw [H.2.2.1 _ _ 108 (upd (mm_0.1 108) 0 0)]
              conv => whnf
              refine ⟨fun c => absurd c c0, fun _ => ?_⟩
              conv => whnf
              refine ⟨fun c => absurd c1 c, fun _ => ?_⟩
              conv => whnf
              refine ⟨Nat.le_of_ble_eq_true rfl, ?_⟩
              conv => whnf
              refine ⟨fun c => absurd c c2, fun _ => ?_⟩
              conv => whnf
              refine ⟨fun c => absurd c c3, fun _ => ?_⟩
              conv => whnf
              refine ⟨xw_O (by rw [H.1]; rfl), xw1 0 0 (Nat.le_of_ble_eq_true rfl) (Nat.zero_le _) (Nat.zero_le _) (show xm_M xp ac lo xp_fty xp_dfl (xp_sv ad as (b, L, xs)) 999 nm_X12_isCircuit [.ref (lo + 108), .int p1] (hp (mm_i mm_0 108 (upd (mm_0.1 108) 0 0)) z) 0 0 (xq1 (.int 0) (hp (mm_i mm_0 108 (upd (mm_0.1 108) 0 0)) z)) from by
                  refine ⟨rfl, Nat.le_of_ble_eq_true rfl, Nat.le_of_ble_eq_true rfl, fun X hX => xm_run hX 100000 _ _ _ _ _ _ ?_⟩
                  conv => whnf
                  refine ⟨fun c => absurd c c4, fun _ => ?_⟩
                  conv => whnf
                  rw [H.1]
                  conv => whnf
                  refine ⟨rfl, ?_⟩
                  conv => whnf
                  refine ⟨fun _ => ?_, fun c => absurd (Int32.not_lt.mp c4) c⟩
                  conv => whnf
                  exact ⟨⟨.boolean, rfl, rfl⟩, rfl, rfl⟩
                  all_goals rfl
                  ) ?_⟩
              conv => whnf
              refine ⟨fun _ => ?_, fun c => absurd (by decide) c⟩
              conv => whnf
              exact ⟨⟨.int, rfl, rfl⟩, rfl, rfl⟩
              all_goals rfl
    ·
      by_cases c2 : p0 < 0
      ·
        refine ⟨(-1), mm_0, (mm_i mm_0 108 (upd (mm_0.1 108) 0 0)), ?_, ?_, trivial⟩
        ·
          refine ⟨rfl, Nat.le_of_ble_eq_true rfl, Nat.le_of_ble_eq_true rfl, fun X hX => xm_run hX 100000 _ _ _ _ _ _ ?_⟩
          conv => whnf
          refine ⟨fun c => absurd c c0, fun _ => ?_⟩
          conv => whnf
          refine ⟨fun _ => ?_, fun c => absurd c1 c⟩
          conv => whnf
          refine ⟨Nat.le_of_ble_eq_true rfl, ?_⟩
          conv => whnf
          refine ⟨fun _ => ?_, fun c => absurd c2 c⟩
          conv => whnf
          exact ⟨⟨.int, rfl, rfl⟩, rfl, rfl⟩
          all_goals rfl
        ·
          refine ⟨rfl, Nat.le_of_ble_eq_true rfl, Nat.le_of_ble_eq_true rfl, fun X hX => xm_run hX 100000 _ _ _ _ _ _ ?_⟩
          conv => whnf
          rw [H.1]
          conv => whnf
          refine ⟨rfl, Nat.le_add_right _ _, Nat.le_of_ble_eq_true rfl, ⟨rfl, rfl⟩, ?_⟩
          rw [H.2.2.1 _ _ 108 (upd (mm_0.1 108) 0 0)]
          conv => whnf
          refine ⟨fun c => absurd c c0, fun _ => ?_⟩
          conv => whnf
          refine ⟨fun _ => ?_, fun c => absurd c1 c⟩
          conv => whnf
          refine ⟨Nat.le_of_ble_eq_true rfl, ?_⟩
          conv => whnf
          refine ⟨fun _ => ?_, fun c => absurd c2 c⟩
          conv => whnf
          exact ⟨⟨.int, rfl, rfl⟩, rfl, rfl⟩
          all_goals rfl
      ·
        by_cases c3 : 6 < p0
        ·
          refine ⟨(-1), mm_0, (mm_i mm_0 108 (upd (mm_0.1 108) 0 0)), ?_, ?_, trivial⟩
          ·
            refine ⟨rfl, Nat.le_of_ble_eq_true rfl, Nat.le_of_ble_eq_true rfl, fun X hX => xm_run hX 100000 _ _ _ _ _ _ ?_⟩
            conv => whnf
            refine ⟨fun c => absurd c c0, fun _ => ?_⟩
            conv => whnf
            refine ⟨fun _ => ?_, fun c => absurd c1 c⟩
            conv => whnf
            refine ⟨Nat.le_of_ble_eq_true rfl, ?_⟩
            conv => whnf
            refine ⟨fun c => absurd c c2, fun _ => ?_⟩
            conv => whnf
            refine ⟨fun _ => ?_, fun c => absurd c3 c⟩
            conv => whnf
            exact ⟨⟨.int, rfl, rfl⟩, rfl, rfl⟩
            all_goals rfl
          ·
            refine ⟨rfl, Nat.le_of_ble_eq_true rfl, Nat.le_of_ble_eq_true rfl, fun X hX => xm_run hX 100000 _ _ _ _ _ _ ?_⟩
            conv => whnf
            rw [H.1]
            conv => whnf
            refine ⟨rfl, Nat.le_add_right _ _, Nat.le_of_ble_eq_true rfl, ⟨rfl, rfl⟩, ?_⟩
            rw [H.2.2.1 _ _ 108 (upd (mm_0.1 108) 0 0)]
            conv => whnf
            refine ⟨fun c => absurd c c0, fun _ => ?_⟩
            conv => whnf
            refine ⟨fun _ => ?_, fun c => absurd c1 c⟩
            conv => whnf
            refine ⟨Nat.le_of_ble_eq_true rfl, ?_⟩
            conv => whnf
            refine ⟨fun c => absurd c c2, fun _ => ?_⟩
            conv => whnf
            refine ⟨fun _ => ?_, fun c => absurd c3 c⟩
            conv => whnf
            exact ⟨⟨.int, rfl, rfl⟩, rfl, rfl⟩
            all_goals rfl
        ·
          by_cases c4 : p1 < 0
          ·
            refine ⟨(-1), mm_0, (mm_i mm_0 108 (upd (mm_0.1 108) 0 0)), ?_, ?_, trivial⟩
            ·
              refine ⟨rfl, Nat.le_of_ble_eq_true rfl, Nat.le_of_ble_eq_true rfl, fun X hX => xm_run hX 100000 _ _ _ _ _ _ ?_⟩
              conv => whnf
              refine ⟨fun c => absurd c c0, fun _ => ?_⟩
              conv => whnf
              refine ⟨fun _ => ?_, fun c => absurd c1 c⟩
              conv => whnf
              refine ⟨Nat.le_of_ble_eq_true rfl, ?_⟩
              conv => whnf
              refine ⟨fun c => absurd c c2, fun _ => ?_⟩
              conv => whnf
              refine ⟨fun c => absurd c c3, fun _ => ?_⟩
              conv => whnf
              rw [H.1]
              conv => whnf
              refine ⟨rfl, ?_⟩
              conv => whnf
              refine ⟨xw_O (by rw [H.1]; rfl), xw1 0 0 (Nat.le_of_ble_eq_true rfl) (Nat.zero_le _) (Nat.zero_le _) (show xm_M xp ac lo xp_fty xp_dfl (xp_sv ad as (b, L, xs)) 999 nm_X0_has [.ref (lo + 9), .int p1] (hp mm_0 z) 0 0 (xq1 (.int 0) (hp mm_0 z)) from by
                  refine ⟨rfl, Nat.le_of_ble_eq_true rfl, Nat.le_of_ble_eq_true rfl, fun X hX => xm_run hX 100000 _ _ _ _ _ _ ?_⟩
                  conv => whnf
                  refine ⟨fun _ => ?_, fun c => absurd c4 c⟩
                  conv => whnf
                  exact ⟨⟨.boolean, rfl, rfl⟩, rfl, rfl⟩
                  all_goals rfl
                  ) ?_⟩
              conv => whnf
              refine ⟨fun _ => ?_, fun c => absurd (by decide) c⟩
              conv => whnf
              exact ⟨⟨.int, rfl, rfl⟩, rfl, rfl⟩
              all_goals rfl
            ·
              refine ⟨rfl, Nat.le_of_ble_eq_true rfl, Nat.le_of_ble_eq_true rfl, fun X hX => xm_run hX 100000 _ _ _ _ _ _ ?_⟩
              conv => whnf
              rw [H.1]
              conv => whnf
              refine ⟨rfl, Nat.le_add_right _ _, Nat.le_of_ble_eq_true rfl, ⟨rfl, rfl⟩, ?_⟩
              rw [H.2.2.1 _ _ 108 (upd (mm_0.1 108) 0 0)]
              conv => whnf
              refine ⟨fun c => absurd c c0, fun _ => ?_⟩
              conv => whnf
              refine ⟨fun _ => ?_, fun c => absurd c1 c⟩
              conv => whnf
              refine ⟨Nat.le_of_ble_eq_true rfl, ?_⟩
              conv => whnf
              refine ⟨fun c => absurd c c2, fun _ => ?_⟩
              conv => whnf
              refine ⟨fun c => absurd c c3, fun _ => ?_⟩
              conv => whnf
              refine ⟨xw_O (by rw [H.1]; rfl), xw1 0 0 (Nat.le_of_ble_eq_true rfl) (Nat.zero_le _) (Nat.zero_le _) (show xm_M xp ac lo xp_fty xp_dfl (xp_sv ad as (b, L, xs)) 999 nm_X12_isCircuit [.ref (lo + 108), .int p1] (hp (mm_i mm_0 108 (upd (mm_0.1 108) 0 0)) z) 0 0 (xq1 (.int 0) (hp (mm_i mm_0 108 (upd (mm_0.1 108) 0 0)) z)) from by
                  refine ⟨rfl, Nat.le_of_ble_eq_true rfl, Nat.le_of_ble_eq_true rfl, fun X hX => xm_run hX 100000 _ _ _ _ _ _ ?_⟩
                  conv => whnf
                  refine ⟨fun _ => ?_, fun c => absurd c4 c⟩
                  conv => whnf
                  exact ⟨⟨.boolean, rfl, rfl⟩, rfl, rfl⟩
                  all_goals rfl
                  ) ?_⟩
              conv => whnf
              refine ⟨fun _ => ?_, fun c => absurd (by decide) c⟩
              conv => whnf
              exact ⟨⟨.int, rfl, rfl⟩, rfl, rfl⟩
              all_goals rfl
          ·
            refine ⟨(-1), mm_0, (mm_i mm_0 108 (upd (mm_0.1 108) 0 0)), ?_, ?_, trivial⟩
            ·
              refine ⟨rfl, Nat.le_of_ble_eq_true rfl, Nat.le_of_ble_eq_true rfl, fun X hX => xm_run hX 100000 _ _ _ _ _ _ ?_⟩
              conv => whnf
              refine ⟨fun c => absurd c c0, fun _ => ?_⟩
              conv => whnf
              refine ⟨fun _ => ?_, fun c => absurd c1 c⟩
              conv => whnf
              refine ⟨Nat.le_of_ble_eq_true rfl, ?_⟩
              conv => whnf
              refine ⟨fun c => absurd c c2, fun _ => ?_⟩
              conv => whnf
              refine ⟨fun c => absurd c c3, fun _ => ?_⟩
              conv => whnf
              rw [H.1]
              conv => whnf
              refine ⟨rfl, ?_⟩
              conv => whnf
              refine ⟨xw_O (by rw [H.1]; rfl), xw1 0 0 (Nat.le_of_ble_eq_true rfl) (Nat.zero_le _) (Nat.zero_le _) (show xm_M xp ac lo xp_fty xp_dfl (xp_sv ad as (b, L, xs)) 999 nm_X0_has [.ref (lo + 9), .int p1] (hp mm_0 z) 0 0 (xq1 (.int 0) (hp mm_0 z)) from by
                  refine ⟨rfl, Nat.le_of_ble_eq_true rfl, Nat.le_of_ble_eq_true rfl, fun X hX => xm_run hX 100000 _ _ _ _ _ _ ?_⟩
                  conv => whnf
                  refine ⟨fun c => absurd c c4, fun _ => ?_⟩
                  conv => whnf
                  rw [H.1]
                  conv => whnf
                  refine ⟨rfl, ?_⟩
                  conv => whnf
                  refine ⟨fun _ => ?_, fun c => absurd (Int32.not_lt.mp c4) c⟩
                  conv => whnf
                  exact ⟨⟨.boolean, rfl, rfl⟩, rfl, rfl⟩
                  all_goals rfl
                  ) ?_⟩
              conv => whnf
              refine ⟨fun _ => ?_, fun c => absurd (by decide) c⟩
              conv => whnf
              exact ⟨⟨.int, rfl, rfl⟩, rfl, rfl⟩
              all_goals rfl
            ·
              refine ⟨rfl, Nat.le_of_ble_eq_true rfl, Nat.le_of_ble_eq_true rfl, fun X hX => xm_run hX 100000 _ _ _ _ _ _ ?_⟩
              conv => whnf
              rw [H.1]
              conv => whnf
              refine ⟨rfl, Nat.le_add_right _ _, Nat.le_of_ble_eq_true rfl, ⟨rfl, rfl⟩, ?_⟩
              rw [H.2.2.1 _ _ 108 (upd (mm_0.1 108) 0 0)]
              conv => whnf
              refine ⟨fun c => absurd c c0, fun _ => ?_⟩
              conv => whnf
              refine ⟨fun _ => ?_, fun c => absurd c1 c⟩
              conv => whnf
              refine ⟨Nat.le_of_ble_eq_true rfl, ?_⟩
              conv => whnf
              refine ⟨fun c => absurd c c2, fun _ => ?_⟩
              conv => whnf
              refine ⟨fun c => absurd c c3, fun _ => ?_⟩
              conv => whnf
              refine ⟨xw_O (by rw [H.1]; rfl), xw1 0 0 (Nat.le_of_ble_eq_true rfl) (Nat.zero_le _) (Nat.zero_le _) (show xm_M xp ac lo xp_fty xp_dfl (xp_sv ad as (b, L, xs)) 999 nm_X12_isCircuit [.ref (lo + 108), .int p1] (hp (mm_i mm_0 108 (upd (mm_0.1 108) 0 0)) z) 0 0 (xq1 (.int 0) (hp (mm_i mm_0 108 (upd (mm_0.1 108) 0 0)) z)) from by
                  refine ⟨rfl, Nat.le_of_ble_eq_true rfl, Nat.le_of_ble_eq_true rfl, fun X hX => xm_run hX 100000 _ _ _ _ _ _ ?_⟩
                  conv => whnf
                  refine ⟨fun c => absurd c c4, fun _ => ?_⟩
                  conv => whnf
                  rw [H.1]
                  conv => whnf
                  refine ⟨rfl, ?_⟩
                  conv => whnf
                  refine ⟨fun _ => ?_, fun c => absurd (Int32.not_lt.mp c4) c⟩
                  conv => whnf
                  exact ⟨⟨.boolean, rfl, rfl⟩, rfl, rfl⟩
                  all_goals rfl
                  ) ?_⟩
              conv => whnf
              refine ⟨fun _ => ?_, fun c => absurd (by decide) c⟩
              conv => whnf
              exact ⟨⟨.int, rfl, rfl⟩, rfl, rfl⟩
              all_goals rfl
set_option maxRecDepth 100000 in
set_option maxHeartbeats 4000000 in
theorem pk_8 (H : mm_L ac lo hp) : ∀ (p0 : Int32) (p1 : Int32) (p2 : Int64), la_I ac lo ad as b L xs hp (fun M => M = mm_0) (fun _ => True) nm_X11_begin nm_X12_begin [.int p0, .int p1, .long p2] := by
  intro p0 p1 p2
  intro M z hM
  have hM : M = mm_0 := hM
  subst hM
  by_cases c0 : p0 < 0
  ·
    refine ⟨0, mm_0, (mm_i mm_0 108 (upd (mm_0.1 108) 0 0)), ?_, ?_, trivial⟩
    ·
      refine ⟨rfl, Nat.le_of_ble_eq_true rfl, Nat.le_of_ble_eq_true rfl, fun X hX => xm_run hX 100000 _ _ _ _ _ _ ?_⟩
      conv => whnf
      rw [H.1]
      conv => whnf
      refine ⟨rfl, ?_⟩
      conv => whnf
      refine ⟨xw_O (by rw [H.1]; rfl), xw1 0 0 (Nat.le_of_ble_eq_true rfl) (Nat.zero_le _) (Nat.zero_le _) (show xm_M xp ac lo xp_fty xp_dfl (xp_sv ad as (b, L, xs)) 999 nm_X0_has [.ref (lo + 9), .int p0] (hp mm_0 z) 0 0 (xq1 (.int 0) (hp mm_0 z)) from by
          refine ⟨rfl, Nat.le_of_ble_eq_true rfl, Nat.le_of_ble_eq_true rfl, fun X hX => xm_run hX 100000 _ _ _ _ _ _ ?_⟩
          conv => whnf
          refine ⟨fun _ => ?_, fun c => absurd c0 c⟩
          conv => whnf
          exact ⟨⟨.boolean, rfl, rfl⟩, rfl, rfl⟩
          all_goals rfl
          ) ?_⟩
      conv => whnf
      refine ⟨fun _ => ?_, fun c => absurd (by decide) c⟩
      conv => whnf
      exact ⟨⟨.boolean, rfl, rfl⟩, rfl, rfl⟩
      all_goals rfl
    ·
      refine ⟨rfl, Nat.le_of_ble_eq_true rfl, Nat.le_of_ble_eq_true rfl, fun X hX => xm_run hX 100000 _ _ _ _ _ _ ?_⟩
      conv => whnf
      rw [H.1]
      conv => whnf
      refine ⟨rfl, Nat.le_add_right _ _, Nat.le_of_ble_eq_true rfl, ⟨rfl, rfl⟩, ?_⟩
      rw [H.2.2.1 _ _ 108 (upd (mm_0.1 108) 0 0)]
      conv => whnf
      refine ⟨xw_O (by rw [H.1]; rfl), xw1 0 0 (Nat.le_of_ble_eq_true rfl) (Nat.zero_le _) (Nat.zero_le _) (show xm_M xp ac lo xp_fty xp_dfl (xp_sv ad as (b, L, xs)) 999 nm_X12_isCircuit [.ref (lo + 108), .int p0] (hp (mm_i mm_0 108 (upd (mm_0.1 108) 0 0)) z) 0 0 (xq1 (.int 0) (hp (mm_i mm_0 108 (upd (mm_0.1 108) 0 0)) z)) from by
          refine ⟨rfl, Nat.le_of_ble_eq_true rfl, Nat.le_of_ble_eq_true rfl, fun X hX => xm_run hX 100000 _ _ _ _ _ _ ?_⟩
          conv => whnf
          refine ⟨fun _ => ?_, fun c => absurd c0 c⟩
          conv => whnf
          exact ⟨⟨.boolean, rfl, rfl⟩, rfl, rfl⟩
          all_goals rfl
          ) ?_⟩
      conv => whnf
      refine ⟨fun _ => ?_, fun c => absurd (by decide) c⟩
      conv => whnf
      exact ⟨⟨.boolean, rfl, rfl⟩, rfl, rfl⟩
      all_goals rfl
  ·
    refine ⟨0, mm_0, (mm_i mm_0 108 (upd (mm_0.1 108) 0 0)), ?_, ?_, trivial⟩
    ·
      refine ⟨rfl, Nat.le_of_ble_eq_true rfl, Nat.le_of_ble_eq_true rfl, fun X hX => xm_run hX 100000 _ _ _ _ _ _ ?_⟩
      conv => whnf
      rw [H.1]
      conv => whnf
      refine ⟨rfl, ?_⟩
      conv => whnf
      refine ⟨xw_O (by rw [H.1]; rfl), xw1 0 0 (Nat.le_of_ble_eq_true rfl) (Nat.zero_le _) (Nat.zero_le _) (show xm_M xp ac lo xp_fty xp_dfl (xp_sv ad as (b, L, xs)) 999 nm_X0_has [.ref (lo + 9), .int p0] (hp mm_0 z) 0 0 (xq1 (.int 0) (hp mm_0 z)) from by
          refine ⟨rfl, Nat.le_of_ble_eq_true rfl, Nat.le_of_ble_eq_true rfl, fun X hX => xm_run hX 100000 _ _ _ _ _ _ ?_⟩
          conv => whnf
          refine ⟨fun c => absurd c c0, fun _ => ?_⟩
          conv => whnf
          rw [H.1]
          conv => whnf
          refine ⟨rfl, ?_⟩
          conv => whnf
          refine ⟨fun _ => ?_, fun c => absurd (Int32.not_lt.mp c0) c⟩
          conv => whnf
          exact ⟨⟨.boolean, rfl, rfl⟩, rfl, rfl⟩
          all_goals rfl
          ) ?_⟩
      conv => whnf
      refine ⟨fun _ => ?_, fun c => absurd (by decide) c⟩
      conv => whnf
      exact ⟨⟨.boolean, rfl, rfl⟩, rfl, rfl⟩
      all_goals rfl
    ·
      refine ⟨rfl, Nat.le_of_ble_eq_true rfl, Nat.le_of_ble_eq_true rfl, fun X hX => xm_run hX 100000 _ _ _ _ _ _ ?_⟩
      conv => whnf
      rw [H.1]
      conv => whnf
      refine ⟨rfl, Nat.le_add_right _ _, Nat.le_of_ble_eq_true rfl, ⟨rfl, rfl⟩, ?_⟩
      rw [H.2.2.1 _ _ 108 (upd (mm_0.1 108) 0 0)]
      conv => whnf
      refine ⟨xw_O (by rw [H.1]; rfl), xw1 0 0 (Nat.le_of_ble_eq_true rfl) (Nat.zero_le _) (Nat.zero_le _) (show xm_M xp ac lo xp_fty xp_dfl (xp_sv ad as (b, L, xs)) 999 nm_X12_isCircuit [.ref (lo + 108), .int p0] (hp (mm_i mm_0 108 (upd (mm_0.1 108) 0 0)) z) 0 0 (xq1 (.int 0) (hp (mm_i mm_0 108 (upd (mm_0.1 108) 0 0)) z)) from by
          refine ⟨rfl, Nat.le_of_ble_eq_true rfl, Nat.le_of_ble_eq_true rfl, fun X hX => xm_run hX 100000 _ _ _ _ _ _ ?_⟩
          conv => whnf
          refine ⟨fun c => absurd c c0, fun _ => ?_⟩
          conv => whnf
          rw [H.1]
          conv => whnf
          refine ⟨rfl, ?_⟩
          conv => whnf
          refine ⟨fun _ => ?_, fun c => absurd (Int32.not_lt.mp c0) c⟩
          conv => whnf
          exact ⟨⟨.boolean, rfl, rfl⟩, rfl, rfl⟩
          all_goals rfl
          ) ?_⟩
      conv => whnf
      refine ⟨fun _ => ?_, fun c => absurd (by decide) c⟩
      conv => whnf
      exact ⟨⟨.boolean, rfl, rfl⟩, rfl, rfl⟩
      all_goals rfl
set_option maxRecDepth 100000 in
set_option maxHeartbeats 4000000 in
theorem pk_9 (H : mm_L ac lo hp) : ∀ (p0 : Int32), la_TI ac lo ad as b L xs hp (fun M => M = mm_0) (fun _ => True) nm_L_run nm_X12_run [.int p0] := by
  intro p0
  intro M z hM
  have hM : M = mm_0 := hM
  subst hM
  by_cases c0 : p0 < 1
  ·
    refine ⟨1, 0, mm_0, (mm_i mm_0 108 (upd (mm_0.1 108) 0 1)), ?_, fun z => ?_, rfl, fun h => absurd h (by decide), trivial⟩
    ·
      refine ⟨rfl, Nat.le_of_ble_eq_true rfl, Nat.le_of_ble_eq_true rfl, fun X hX => xm_run hX 1000 _ _ _ _ _ _ ?_⟩
      conv => whnf
      refine ⟨xw_O (by rw [H.1]; rfl), xw_thr (hp := hp) (M := mm_0) "java/lang/IllegalArgumentException" (Nat.le_of_ble_eq_true rfl) (Nat.le_of_ble_eq_true rfl) (Nat.le_of_ble_eq_true rfl) (show xm_M xp ac lo xp_fty xp_dfl (xp_sv ad as (b, L, xs)) 999 nm_X11_run [.ref (lo + 0), .int p0] (hp mm_0 z) 1 6 (fun r h => r = .inr "java/lang/IllegalArgumentException" ∧ ∃ z, h = hp mm_0 z) from by
          refine ⟨rfl, Nat.le_of_ble_eq_true rfl, Nat.le_of_ble_eq_true rfl, fun X hX => xm_run hX 100000 _ _ _ _ _ _ ?_⟩
          conv => whnf
          refine ⟨fun _ => ?_, fun c => absurd c0 c⟩
          conv => whnf
          exact ⟨rfl, by decide, Nat.le_of_ble_eq_true rfl, Nat.le_of_ble_eq_true rfl, Nat.le_of_ble_eq_true rfl, fun z9 _ => ⟨rfl, z9, H.2.2.2.2 _ _ _⟩⟩
          all_goals rfl
          ) (fun z => ?_)⟩
      refine xw_hd (hh := (0, 9, 12, 15, "java/lang/IllegalArgumentException") :: [(0, 9, 15, 13, "java/lang/IllegalStateException")]) rfl (by
        intro e he
        simp only [List.mem_cons, List.not_mem_nil, or_false] at he
        rcases he with rfl | rfl
        · exact Or.inl rfl
        · exact Or.inr (show ("java/lang/IllegalArgumentException", "java/lang/IllegalStateException") ∈ xp_pr by decide)
        ) (by decide +kernel : xm_hd 4 "java/lang/IllegalArgumentException" [(0, 9, 12, 15, "java/lang/IllegalArgumentException"), (0, 9, 15, 13, "java/lang/IllegalStateException")] = some 12) (fun q => ?_)
      conv => whnf
      refine ⟨Nat.le_of_ble_eq_true rfl, ?_⟩
      conv => whnf
      exact ⟨⟨.int, rfl, rfl⟩, rfl, _, rfl⟩
    ·
      refine ⟨rfl, Nat.le_of_ble_eq_true rfl, Nat.le_of_ble_eq_true rfl, fun X hX => xm_run hX 100000 _ _ _ _ _ _ ?_⟩
      conv => whnf
      refine ⟨fun _ => ?_, fun c => absurd c0 c⟩
      conv => whnf
      refine ⟨xw_O (by rw [H.1]; rfl), xw1 0 0 (Nat.le_of_ble_eq_true rfl) (Nat.zero_le _) (Nat.zero_le _) (show xm_M xp ac lo xp_fty xp_dfl (xp_sv ad as (b, L, xs)) 999 nm_X12_raise [.ref (lo + 108), .int 1] (hp mm_0 z) 0 0 (xq1 (.int 0) (hp (mm_i mm_0 108 (upd (mm_0.1 108) 0 1)) z)) from by
          refine ⟨rfl, Nat.le_of_ble_eq_true rfl, Nat.le_of_ble_eq_true rfl, fun X hX => xm_run hX 100000 _ _ _ _ _ _ ?_⟩
          conv => whnf
          rw [H.1]
          conv => whnf
          refine ⟨rfl, Nat.le_add_right _ _, Nat.le_of_ble_eq_true rfl, ⟨rfl, rfl⟩, ?_⟩
          rw [H.2.2.1 _ _ 108 (upd (mm_0.1 108) 0 1)]
          conv => whnf
          exact ⟨⟨.int, rfl, rfl⟩, rfl, rfl⟩
          all_goals rfl
          ) ?_⟩
      conv => whnf
      exact ⟨⟨.int, rfl, rfl⟩, rfl, rfl⟩
      all_goals rfl
  ·
    by_cases c1 : 400 < p0
    ·
      refine ⟨1, 0, mm_0, (mm_i mm_0 108 (upd (mm_0.1 108) 0 1)), ?_, fun z => ?_, rfl, fun h => absurd h (by decide), trivial⟩
      ·
        refine ⟨rfl, Nat.le_of_ble_eq_true rfl, Nat.le_of_ble_eq_true rfl, fun X hX => xm_run hX 1000 _ _ _ _ _ _ ?_⟩
        conv => whnf
        refine ⟨xw_O (by rw [H.1]; rfl), xw_thr (hp := hp) (M := mm_0) "java/lang/IllegalArgumentException" (Nat.le_of_ble_eq_true rfl) (Nat.le_of_ble_eq_true rfl) (Nat.le_of_ble_eq_true rfl) (show xm_M xp ac lo xp_fty xp_dfl (xp_sv ad as (b, L, xs)) 999 nm_X11_run [.ref (lo + 0), .int p0] (hp mm_0 z) 1 6 (fun r h => r = .inr "java/lang/IllegalArgumentException" ∧ ∃ z, h = hp mm_0 z) from by
            refine ⟨rfl, Nat.le_of_ble_eq_true rfl, Nat.le_of_ble_eq_true rfl, fun X hX => xm_run hX 100000 _ _ _ _ _ _ ?_⟩
            conv => whnf
            refine ⟨fun c => absurd c c0, fun _ => ?_⟩
            conv => whnf
            refine ⟨fun c => absurd c (Int32.not_le.mpr c1), fun _ => ?_⟩
            conv => whnf
            exact ⟨rfl, by decide, Nat.le_of_ble_eq_true rfl, Nat.le_of_ble_eq_true rfl, Nat.le_of_ble_eq_true rfl, fun z9 _ => ⟨rfl, z9, H.2.2.2.2 _ _ _⟩⟩
            all_goals rfl
            ) (fun z => ?_)⟩
        refine xw_hd (hh := (0, 9, 12, 15, "java/lang/IllegalArgumentException") :: [(0, 9, 15, 13, "java/lang/IllegalStateException")]) rfl (by
          intro e he
          simp only [List.mem_cons, List.not_mem_nil, or_false] at he
          rcases he with rfl | rfl
          · exact Or.inl rfl
          · exact Or.inr (show ("java/lang/IllegalArgumentException", "java/lang/IllegalStateException") ∈ xp_pr by decide)
          ) (by decide +kernel : xm_hd 4 "java/lang/IllegalArgumentException" [(0, 9, 12, 15, "java/lang/IllegalArgumentException"), (0, 9, 15, 13, "java/lang/IllegalStateException")] = some 12) (fun q => ?_)
        conv => whnf
        refine ⟨Nat.le_of_ble_eq_true rfl, ?_⟩
        conv => whnf
        exact ⟨⟨.int, rfl, rfl⟩, rfl, _, rfl⟩
      ·
        refine ⟨rfl, Nat.le_of_ble_eq_true rfl, Nat.le_of_ble_eq_true rfl, fun X hX => xm_run hX 100000 _ _ _ _ _ _ ?_⟩
        conv => whnf
        refine ⟨fun c => absurd c c0, fun _ => ?_⟩
        conv => whnf
        refine ⟨fun c => absurd c (Int32.not_le.mpr c1), fun _ => ?_⟩
        conv => whnf
        refine ⟨xw_O (by rw [H.1]; rfl), xw1 0 0 (Nat.le_of_ble_eq_true rfl) (Nat.zero_le _) (Nat.zero_le _) (show xm_M xp ac lo xp_fty xp_dfl (xp_sv ad as (b, L, xs)) 999 nm_X12_raise [.ref (lo + 108), .int 1] (hp mm_0 z) 0 0 (xq1 (.int 0) (hp (mm_i mm_0 108 (upd (mm_0.1 108) 0 1)) z)) from by
            refine ⟨rfl, Nat.le_of_ble_eq_true rfl, Nat.le_of_ble_eq_true rfl, fun X hX => xm_run hX 100000 _ _ _ _ _ _ ?_⟩
            conv => whnf
            rw [H.1]
            conv => whnf
            refine ⟨rfl, Nat.le_add_right _ _, Nat.le_of_ble_eq_true rfl, ⟨rfl, rfl⟩, ?_⟩
            rw [H.2.2.1 _ _ 108 (upd (mm_0.1 108) 0 1)]
            conv => whnf
            exact ⟨⟨.int, rfl, rfl⟩, rfl, rfl⟩
            all_goals rfl
            ) ?_⟩
        conv => whnf
        exact ⟨⟨.int, rfl, rfl⟩, rfl, rfl⟩
        all_goals rfl
    ·
      refine ⟨2, 0, mm_0, (mm_i mm_0 108 (upd (mm_0.1 108) 0 2)), ?_, fun z => ?_, rfl, fun h => absurd h (by decide), trivial⟩
      ·
        refine ⟨rfl, Nat.le_of_ble_eq_true rfl, Nat.le_of_ble_eq_true rfl, fun X hX => xm_run hX 1000 _ _ _ _ _ _ ?_⟩
        conv => whnf
        refine ⟨xw_O (by rw [H.1]; rfl), xw_thr (hp := hp) (M := mm_0) "java/lang/IllegalStateException" (Nat.le_of_ble_eq_true rfl) (Nat.le_of_ble_eq_true rfl) (Nat.le_of_ble_eq_true rfl) (show xm_M xp ac lo xp_fty xp_dfl (xp_sv ad as (b, L, xs)) 999 nm_X11_run [.ref (lo + 0), .int p0] (hp mm_0 z) 1 6 (fun r h => r = .inr "java/lang/IllegalStateException" ∧ ∃ z, h = hp mm_0 z) from by
            refine ⟨rfl, Nat.le_of_ble_eq_true rfl, Nat.le_of_ble_eq_true rfl, fun X hX => xm_run hX 100000 _ _ _ _ _ _ ?_⟩
            conv => whnf
            refine ⟨fun c => absurd c c0, fun _ => ?_⟩
            conv => whnf
            refine ⟨fun _ => ?_, fun c => absurd (Int32.not_lt.mp c1) c⟩
            conv => whnf
            rw [H.1]
            conv => whnf
            refine ⟨rfl, ?_⟩
            conv => whnf
            rw [H.1]
            conv => whnf
            refine ⟨rfl, ?_⟩
            conv => whnf
            refine ⟨fun _ => ?_, fun c => absurd (by decide) c⟩
            conv => whnf
            exact ⟨rfl, by decide, Nat.le_of_ble_eq_true rfl, Nat.le_of_ble_eq_true rfl, Nat.le_of_ble_eq_true rfl, fun z9 _ => ⟨rfl, z9, H.2.2.2.2 _ _ _⟩⟩
            all_goals rfl
            ) (fun z => ?_)⟩
        refine xw_hd (hh := (0, 9, 12, 15, "java/lang/IllegalArgumentException") :: [(0, 9, 15, 13, "java/lang/IllegalStateException")]) rfl (by
          intro e he
          simp only [List.mem_cons, List.not_mem_nil, or_false] at he
          rcases he with rfl | rfl
          · exact Or.inr (show ("java/lang/IllegalStateException", "java/lang/IllegalArgumentException") ∈ xp_pr by decide)
          · exact Or.inl rfl
          ) (by decide +kernel : xm_hd 4 "java/lang/IllegalStateException" [(0, 9, 12, 15, "java/lang/IllegalArgumentException"), (0, 9, 15, 13, "java/lang/IllegalStateException")] = some 15) (fun q => ?_)
        conv => whnf
        refine ⟨Nat.le_of_ble_eq_true rfl, ?_⟩
        conv => whnf
        exact ⟨⟨.int, rfl, rfl⟩, rfl, _, rfl⟩
      ·
        refine ⟨rfl, Nat.le_of_ble_eq_true rfl, Nat.le_of_ble_eq_true rfl, fun X hX => xm_run hX 100000 _ _ _ _ _ _ ?_⟩
        conv => whnf
        refine ⟨fun c => absurd c c0, fun _ => ?_⟩
        conv => whnf
        refine ⟨fun _ => ?_, fun c => absurd (Int32.not_lt.mp c1) c⟩
        conv => whnf
        rw [H.1]
        conv => whnf
        refine ⟨rfl, ?_⟩
        conv => whnf
        refine ⟨fun _ => ?_, fun c => absurd (by decide) c⟩
        conv => whnf
        refine ⟨xw_O (by rw [H.1]; rfl), xw1 0 0 (Nat.le_of_ble_eq_true rfl) (Nat.zero_le _) (Nat.zero_le _) (show xm_M xp ac lo xp_fty xp_dfl (xp_sv ad as (b, L, xs)) 999 nm_X12_raise [.ref (lo + 108), .int 2] (hp mm_0 z) 0 0 (xq1 (.int 0) (hp (mm_i mm_0 108 (upd (mm_0.1 108) 0 2)) z)) from by
            refine ⟨rfl, Nat.le_of_ble_eq_true rfl, Nat.le_of_ble_eq_true rfl, fun X hX => xm_run hX 100000 _ _ _ _ _ _ ?_⟩
            conv => whnf
            rw [H.1]
            conv => whnf
            refine ⟨rfl, Nat.le_add_right _ _, Nat.le_of_ble_eq_true rfl, ⟨rfl, rfl⟩, ?_⟩
            rw [H.2.2.1 _ _ 108 (upd (mm_0.1 108) 0 2)]
            conv => whnf
            exact ⟨⟨.int, rfl, rfl⟩, rfl, rfl⟩
            all_goals rfl
            ) ?_⟩
        conv => whnf
        exact ⟨⟨.int, rfl, rfl⟩, rfl, rfl⟩
        all_goals rfl
set_option maxRecDepth 100000 in
set_option maxHeartbeats 4000000 in
theorem pk_10 (H : mm_L ac lo hp) : ∀ (p0 : Int32), la_I ac lo ad as b L xs hp (fun M => M = mm_0) (fun _ => True) nm_X11_state nm_X12_state [.int p0] := by
  intro p0
  intro M z hM
  have hM : M = mm_0 := hM
  subst hM
  refine ⟨(-1), mm_0, (mm_i mm_0 108 (upd (mm_0.1 108) 0 0)), ?_, ?_, trivial⟩
  ·
    refine ⟨rfl, Nat.le_of_ble_eq_true rfl, Nat.le_of_ble_eq_true rfl, fun X hX => xm_run hX 100000 _ _ _ _ _ _ ?_⟩
    conv => whnf
    rw [H.1]
    conv => whnf
    refine ⟨rfl, ?_⟩
    conv => whnf
    rw [H.1]
    conv => whnf
    refine ⟨rfl, ?_⟩
    conv => whnf
    refine ⟨fun c => absurd (by decide) c, fun _ => ?_⟩
    conv => whnf
    exact ⟨⟨.int, rfl, rfl⟩, rfl, rfl⟩
    all_goals rfl
  ·
    refine ⟨rfl, Nat.le_of_ble_eq_true rfl, Nat.le_of_ble_eq_true rfl, fun X hX => xm_run hX 100000 _ _ _ _ _ _ ?_⟩
    conv => whnf
    rw [H.1]
    conv => whnf
    refine ⟨rfl, Nat.le_add_right _ _, Nat.le_of_ble_eq_true rfl, ⟨rfl, rfl⟩, ?_⟩
    rw [H.2.2.1 _ _ 108 (upd (mm_0.1 108) 0 0)]
    conv => whnf
    rw [H.1]
    conv => whnf
    refine ⟨rfl, ?_⟩
    conv => whnf
    refine ⟨fun _ => ?_, fun c => absurd (by decide) c⟩
    conv => whnf
    exact ⟨⟨.int, rfl, rfl⟩, rfl, rfl⟩
    all_goals rfl
set_option maxRecDepth 100000 in
set_option maxHeartbeats 4000000 in
theorem pk_11 (H : mm_L ac lo hp) : ∀ (p0 : Int32) (p1 : Int32), la_TJ ac lo ad as b L xs hp (fun M => M = mm_0) (fun _ => True) nm_L_amplitude nm_X12_amplitude [.int p0, .int p1] := by
  intro p0 p1
  intro M z hM
  have hM : M = mm_0 := hM
  subst hM
  refine ⟨1, 0, mm_0, (mm_i mm_0 108 (upd (mm_0.1 108) 0 1)), ?_, fun z => ?_, rfl, fun h => absurd h (by decide), trivial⟩
  ·
    refine ⟨rfl, Nat.le_of_ble_eq_true rfl, Nat.le_of_ble_eq_true rfl, fun X hX => xm_run hX 1000 _ _ _ _ _ _ ?_⟩
    conv => whnf
    refine ⟨xw_O (by rw [H.1]; rfl), xw_thr (hp := hp) (M := mm_0) "java/util/NoSuchElementException" (Nat.le_of_ble_eq_true rfl) (Nat.le_of_ble_eq_true rfl) (Nat.le_of_ble_eq_true rfl) (show xm_M xp ac lo xp_fty xp_dfl (xp_sv ad as (b, L, xs)) 999 nm_X11_amplitude [.ref (lo + 0), .int p0, .int p1] (hp mm_0 z) 1 6 (fun r h => r = .inr "java/util/NoSuchElementException" ∧ ∃ z, h = hp mm_0 z) from by
        refine ⟨rfl, Nat.le_of_ble_eq_true rfl, Nat.le_of_ble_eq_true rfl, fun X hX => xm_run hX 100000 _ _ _ _ _ _ ?_⟩
        conv => whnf
        rw [H.1]
        conv => whnf
        refine ⟨rfl, ?_⟩
        conv => whnf
        rw [H.1]
        conv => whnf
        refine ⟨rfl, ?_⟩
        conv => whnf
        refine ⟨fun _ => ?_, fun c => absurd (by decide) c⟩
        conv => whnf
        exact ⟨rfl, by decide, Nat.le_of_ble_eq_true rfl, Nat.le_of_ble_eq_true rfl, Nat.le_of_ble_eq_true rfl, fun z9 _ => ⟨rfl, z9, H.2.2.2.2 _ _ _⟩⟩
        all_goals rfl
        ) (fun z => ?_)⟩
    refine xw_hd (hh := (0, 9, 12, 25, "java/util/NoSuchElementException") :: []) rfl (by
      intro e he
      simp only [List.mem_cons, List.not_mem_nil, or_false] at he
      subst he
      exact Or.inl rfl
      ) (by decide +kernel : xm_hd 5 "java/util/NoSuchElementException" [(0, 9, 12, 25, "java/util/NoSuchElementException")] = some 12) (fun q => ?_)
    conv => whnf
    refine ⟨Nat.le_of_ble_eq_true rfl, ?_⟩
    conv => whnf
    exact ⟨⟨.int, rfl, rfl⟩, rfl, _, rfl⟩
  ·
    refine ⟨rfl, Nat.le_of_ble_eq_true rfl, Nat.le_of_ble_eq_true rfl, fun X hX => xm_run hX 100000 _ _ _ _ _ _ ?_⟩
    conv => whnf
    rw [H.1]
    conv => whnf
    refine ⟨rfl, ?_⟩
    conv => whnf
    refine ⟨fun _ => ?_, fun c => absurd (by decide) c⟩
    conv => whnf
    refine ⟨Nat.le_of_ble_eq_true rfl, ?_⟩
    conv => whnf
    refine ⟨fun _ => ?_, fun c => absurd (by decide) c⟩
    conv => whnf
    refine ⟨xw_O (by rw [H.1]; rfl), xw1 0 0 (Nat.le_of_ble_eq_true rfl) (Nat.zero_le _) (Nat.zero_le _) (show xm_M xp ac lo xp_fty xp_dfl (xp_sv ad as (b, L, xs)) 999 nm_X12_tell [.ref (lo + 108), .int 0, .int p1, .int 0] (hp mm_0 z) 0 0 (xq1 (.long 0) (hp (mm_i mm_0 108 (upd (mm_0.1 108) 0 1)) z)) from by
        refine ⟨rfl, Nat.le_of_ble_eq_true rfl, Nat.le_of_ble_eq_true rfl, fun X hX => xm_run hX 100000 _ _ _ _ _ _ ?_⟩
        conv => whnf
        refine ⟨fun _ => ?_, fun c => absurd (by decide) c⟩
        conv => whnf
        rw [H.1]
        conv => whnf
        refine ⟨rfl, Nat.le_add_right _ _, Nat.le_of_ble_eq_true rfl, ⟨rfl, rfl⟩, ?_⟩
        rw [H.2.2.1 _ _ 108 (upd (mm_0.1 108) 0 1)]
        conv => whnf
        rw [H.1]
        conv => whnf
        refine ⟨rfl, ?_⟩
        conv => whnf
        refine ⟨fun c => absurd c (by decide), fun _ => ?_⟩
        conv => whnf
        exact ⟨rfl, rfl, rfl⟩
        all_goals rfl
        ) ?_⟩
    conv => whnf
    exact ⟨rfl, rfl, rfl⟩
    all_goals rfl
set_option maxRecDepth 100000 in
set_option maxHeartbeats 4000000 in
theorem pk_15 (H : mm_L ac lo hp) : ∀ (p0 : Int32), la_I ac lo ad as b L xs hp (fun M => M = mm_0) (fun _ => True) nm_X11_nodes nm_X12_nodes [.int p0] := by
  intro p0
  intro M z hM
  have hM : M = mm_0 := hM
  subst hM
  refine ⟨(-1), mm_0, (mm_i mm_0 108 (upd (mm_0.1 108) 0 0)), ?_, ?_, trivial⟩
  ·
    refine ⟨rfl, Nat.le_of_ble_eq_true rfl, Nat.le_of_ble_eq_true rfl, fun X hX => xm_run hX 100000 _ _ _ _ _ _ ?_⟩
    conv => whnf
    rw [H.1]
    conv => whnf
    refine ⟨rfl, ?_⟩
    conv => whnf
    rw [H.1]
    conv => whnf
    refine ⟨rfl, ?_⟩
    conv => whnf
    refine ⟨fun _ => ?_, fun c => absurd (by decide) c⟩
    conv => whnf
    exact ⟨⟨.int, rfl, rfl⟩, rfl, rfl⟩
    all_goals rfl
  ·
    refine ⟨rfl, Nat.le_of_ble_eq_true rfl, Nat.le_of_ble_eq_true rfl, fun X hX => xm_run hX 100000 _ _ _ _ _ _ ?_⟩
    conv => whnf
    rw [H.1]
    conv => whnf
    refine ⟨rfl, Nat.le_add_right _ _, Nat.le_of_ble_eq_true rfl, ⟨rfl, rfl⟩, ?_⟩
    rw [H.2.2.1 _ _ 108 (upd (mm_0.1 108) 0 0)]
    conv => whnf
    rw [H.1]
    conv => whnf
    refine ⟨rfl, ?_⟩
    conv => whnf
    refine ⟨fun _ => ?_, fun c => absurd (by decide) c⟩
    conv => whnf
    exact ⟨⟨.int, rfl, rfl⟩, rfl, rfl⟩
    all_goals rfl
set_option maxRecDepth 100000 in
set_option maxHeartbeats 4000000 in
theorem pk_16 (H : mm_L ac lo hp) : ∀ (p0 : Int32) (p1 : Int32), la_I ac lo ad as b L xs hp (fun M => M = mm_0) (fun _ => True) nm_X11_group nm_X12_group [.int p0, .int p1] := by
  intro p0 p1
  intro M z hM
  have hM : M = mm_0 := hM
  subst hM
  refine ⟨(-1), mm_0, (mm_i mm_0 108 (upd (mm_0.1 108) 0 0)), ?_, ?_, trivial⟩
  ·
    refine ⟨rfl, Nat.le_of_ble_eq_true rfl, Nat.le_of_ble_eq_true rfl, fun X hX => xm_run hX 100000 _ _ _ _ _ _ ?_⟩
    conv => whnf
    rw [H.1]
    conv => whnf
    refine ⟨rfl, ?_⟩
    conv => whnf
    rw [H.1]
    conv => whnf
    refine ⟨rfl, ?_⟩
    conv => whnf
    refine ⟨fun c => absurd (by decide) c, fun _ => ?_⟩
    conv => whnf
    exact ⟨⟨.int, rfl, rfl⟩, rfl, rfl⟩
    all_goals rfl
  ·
    refine ⟨rfl, Nat.le_of_ble_eq_true rfl, Nat.le_of_ble_eq_true rfl, fun X hX => xm_run hX 100000 _ _ _ _ _ _ ?_⟩
    conv => whnf
    rw [H.1]
    conv => whnf
    refine ⟨rfl, Nat.le_add_right _ _, Nat.le_of_ble_eq_true rfl, ⟨rfl, rfl⟩, ?_⟩
    rw [H.2.2.1 _ _ 108 (upd (mm_0.1 108) 0 0)]
    conv => whnf
    rw [H.1]
    conv => whnf
    refine ⟨rfl, ?_⟩
    conv => whnf
    refine ⟨fun c => absurd (by decide) c, fun _ => ?_⟩
    conv => whnf
    exact ⟨⟨.int, rfl, rfl⟩, rfl, rfl⟩
    all_goals rfl
set_option maxRecDepth 100000 in
set_option maxHeartbeats 4000000 in
theorem pk_21 (H : mm_L ac lo hp) : ∀ (p0 : Int32) (p1 : Int32), la_I ac lo ad as b L xs hp (fun M => M = mm_0) (fun _ => True) nm_X11_equal nm_X12_equal [.int p0, .int p1] := by
  intro p0 p1
  intro M z hM
  have hM : M = mm_0 := hM
  subst hM
  by_cases c0 : p0 < 0
  ·
    refine ⟨(-1), mm_0, (mm_i mm_0 108 (upd (mm_0.1 108) 0 0)), ?_, ?_, trivial⟩
    ·
      refine ⟨rfl, Nat.le_of_ble_eq_true rfl, Nat.le_of_ble_eq_true rfl, fun X hX => xm_run hX 100000 _ _ _ _ _ _ ?_⟩
      conv => whnf
      rw [H.1]
      conv => whnf
      refine ⟨rfl, ?_⟩
      conv => whnf
      refine ⟨xw_O (by rw [H.1]; rfl), xw1 0 0 (Nat.le_of_ble_eq_true rfl) (Nat.zero_le _) (Nat.zero_le _) (show xm_M xp ac lo xp_fty xp_dfl (xp_sv ad as (b, L, xs)) 999 nm_X0_has [.ref (lo + 9), .int p0] (hp mm_0 z) 0 0 (xq1 (.int 0) (hp mm_0 z)) from by
          refine ⟨rfl, Nat.le_of_ble_eq_true rfl, Nat.le_of_ble_eq_true rfl, fun X hX => xm_run hX 100000 _ _ _ _ _ _ ?_⟩
          conv => whnf
          refine ⟨fun _ => ?_, fun c => absurd c0 c⟩
          conv => whnf
          exact ⟨⟨.boolean, rfl, rfl⟩, rfl, rfl⟩
          all_goals rfl
          ) ?_⟩
      conv => whnf
      refine ⟨fun _ => ?_, fun c => absurd (by decide) c⟩
      conv => whnf
      exact ⟨⟨.int, rfl, rfl⟩, rfl, rfl⟩
      all_goals rfl
    ·
      refine ⟨rfl, Nat.le_of_ble_eq_true rfl, Nat.le_of_ble_eq_true rfl, fun X hX => xm_run hX 100000 _ _ _ _ _ _ ?_⟩
      conv => whnf
      rw [H.1]
      conv => whnf
      refine ⟨rfl, Nat.le_add_right _ _, Nat.le_of_ble_eq_true rfl, ⟨rfl, rfl⟩, ?_⟩
      rw [H.2.2.1 _ _ 108 (upd (mm_0.1 108) 0 0)]
      conv => whnf
      refine ⟨xw_O (by rw [H.1]; rfl), xw1 0 0 (Nat.le_of_ble_eq_true rfl) (Nat.zero_le _) (Nat.zero_le _) (show xm_M xp ac lo xp_fty xp_dfl (xp_sv ad as (b, L, xs)) 999 nm_X12_isCircuit [.ref (lo + 108), .int p0] (hp (mm_i mm_0 108 (upd (mm_0.1 108) 0 0)) z) 0 0 (xq1 (.int 0) (hp (mm_i mm_0 108 (upd (mm_0.1 108) 0 0)) z)) from by
          refine ⟨rfl, Nat.le_of_ble_eq_true rfl, Nat.le_of_ble_eq_true rfl, fun X hX => xm_run hX 100000 _ _ _ _ _ _ ?_⟩
          conv => whnf
          refine ⟨fun _ => ?_, fun c => absurd c0 c⟩
          conv => whnf
          exact ⟨⟨.boolean, rfl, rfl⟩, rfl, rfl⟩
          all_goals rfl
          ) ?_⟩
      conv => whnf
      refine ⟨fun _ => ?_, fun c => absurd (by decide) c⟩
      conv => whnf
      exact ⟨⟨.int, rfl, rfl⟩, rfl, rfl⟩
      all_goals rfl
  ·
    refine ⟨(-1), mm_0, (mm_i mm_0 108 (upd (mm_0.1 108) 0 0)), ?_, ?_, trivial⟩
    ·
      refine ⟨rfl, Nat.le_of_ble_eq_true rfl, Nat.le_of_ble_eq_true rfl, fun X hX => xm_run hX 100000 _ _ _ _ _ _ ?_⟩
      conv => whnf
      rw [H.1]
      conv => whnf
      refine ⟨rfl, ?_⟩
      conv => whnf
      refine ⟨xw_O (by rw [H.1]; rfl), xw1 0 0 (Nat.le_of_ble_eq_true rfl) (Nat.zero_le _) (Nat.zero_le _) (show xm_M xp ac lo xp_fty xp_dfl (xp_sv ad as (b, L, xs)) 999 nm_X0_has [.ref (lo + 9), .int p0] (hp mm_0 z) 0 0 (xq1 (.int 0) (hp mm_0 z)) from by
          refine ⟨rfl, Nat.le_of_ble_eq_true rfl, Nat.le_of_ble_eq_true rfl, fun X hX => xm_run hX 100000 _ _ _ _ _ _ ?_⟩
          conv => whnf
          refine ⟨fun c => absurd c c0, fun _ => ?_⟩
          conv => whnf
          rw [H.1]
          conv => whnf
          refine ⟨rfl, ?_⟩
          conv => whnf
          refine ⟨fun _ => ?_, fun c => absurd (Int32.not_lt.mp c0) c⟩
          conv => whnf
          exact ⟨⟨.boolean, rfl, rfl⟩, rfl, rfl⟩
          all_goals rfl
          ) ?_⟩
      conv => whnf
      refine ⟨fun _ => ?_, fun c => absurd (by decide) c⟩
      conv => whnf
      exact ⟨⟨.int, rfl, rfl⟩, rfl, rfl⟩
      all_goals rfl
    ·
      refine ⟨rfl, Nat.le_of_ble_eq_true rfl, Nat.le_of_ble_eq_true rfl, fun X hX => xm_run hX 100000 _ _ _ _ _ _ ?_⟩
      conv => whnf
      rw [H.1]
      conv => whnf
      refine ⟨rfl, Nat.le_add_right _ _, Nat.le_of_ble_eq_true rfl, ⟨rfl, rfl⟩, ?_⟩
      rw [H.2.2.1 _ _ 108 (upd (mm_0.1 108) 0 0)]
      conv => whnf
      refine ⟨xw_O (by rw [H.1]; rfl), xw1 0 0 (Nat.le_of_ble_eq_true rfl) (Nat.zero_le _) (Nat.zero_le _) (show xm_M xp ac lo xp_fty xp_dfl (xp_sv ad as (b, L, xs)) 999 nm_X12_isCircuit [.ref (lo + 108), .int p0] (hp (mm_i mm_0 108 (upd (mm_0.1 108) 0 0)) z) 0 0 (xq1 (.int 0) (hp (mm_i mm_0 108 (upd (mm_0.1 108) 0 0)) z)) from by
          refine ⟨rfl, Nat.le_of_ble_eq_true rfl, Nat.le_of_ble_eq_true rfl, fun X hX => xm_run hX 100000 _ _ _ _ _ _ ?_⟩
          conv => whnf
          refine ⟨fun c => absurd c c0, fun _ => ?_⟩
          conv => whnf
          rw [H.1]
          conv => whnf
          refine ⟨rfl, ?_⟩
          conv => whnf
          refine ⟨fun _ => ?_, fun c => absurd (Int32.not_lt.mp c0) c⟩
          conv => whnf
          exact ⟨⟨.boolean, rfl, rfl⟩, rfl, rfl⟩
          all_goals rfl
          ) ?_⟩
      conv => whnf
      refine ⟨fun _ => ?_, fun c => absurd (by decide) c⟩
      conv => whnf
      exact ⟨⟨.int, rfl, rfl⟩, rfl, rfl⟩
      all_goals rfl
set_option maxRecDepth 100000 in
set_option maxHeartbeats 4000000 in
theorem pk_22 (H : mm_L ac lo hp) : la_I ac lo ad as b L xs hp (fun M => M = mm_0) (fun _ => True) nm_X11_same nm_X12_same [] := by
  intro M z hM
  have hM : M = mm_0 := hM
  subst hM
  refine ⟨(-100), mm_0, (mm_i mm_0 108 (upd (mm_0.1 108) 0 0)), ?_, ?_, trivial⟩
  ·
    refine ⟨rfl, Nat.le_of_ble_eq_true rfl, Nat.le_of_ble_eq_true rfl, fun X hX => xm_run hX 100000 _ _ _ _ _ _ ?_⟩
    conv => whnf
    rw [H.1]
    conv => whnf
    refine ⟨rfl, ?_⟩
    conv => whnf
    exact ⟨⟨.int, rfl, rfl⟩, rfl, rfl⟩
    all_goals rfl
  ·
    refine ⟨rfl, Nat.le_of_ble_eq_true rfl, Nat.le_of_ble_eq_true rfl, fun X hX => xm_run hX 100000 _ _ _ _ _ _ ?_⟩
    conv => whnf
    rw [H.1]
    conv => whnf
    refine ⟨rfl, Nat.le_add_right _ _, Nat.le_of_ble_eq_true rfl, ⟨rfl, rfl⟩, ?_⟩
    rw [H.2.2.1 _ _ 108 (upd (mm_0.1 108) 0 0)]
    conv => whnf
    rw [H.1]
    conv => whnf
    refine ⟨rfl, ?_⟩
    conv => whnf
    exact ⟨⟨.int, rfl, rfl⟩, rfl, rfl⟩
    all_goals rfl
set_option maxRecDepth 100000 in
set_option maxHeartbeats 4000000 in
theorem pk_23 (H : mm_L ac lo hp) : ∀ (p0 : Int32), la_I ac lo ad as b L xs hp (fun M => M = mm_0) (fun _ => True) nm_X11_diagram nm_X12_diagram [.int p0] := by
  intro p0
  intro M z hM
  have hM : M = mm_0 := hM
  subst hM
  by_cases c0 : p0 < 0
  ·
    refine ⟨(-1), mm_0, (mm_i mm_0 108 (upd (mm_0.1 108) 0 0)), ?_, ?_, trivial⟩
    ·
      refine ⟨rfl, Nat.le_of_ble_eq_true rfl, Nat.le_of_ble_eq_true rfl, fun X hX => xm_run hX 100000 _ _ _ _ _ _ ?_⟩
      conv => whnf
      rw [H.1]
      conv => whnf
      refine ⟨rfl, ?_⟩
      conv => whnf
      refine ⟨xw_O (by rw [H.1]; rfl), xw1 0 0 (Nat.le_of_ble_eq_true rfl) (Nat.zero_le _) (Nat.zero_le _) (show xm_M xp ac lo xp_fty xp_dfl (xp_sv ad as (b, L, xs)) 999 nm_X0_has [.ref (lo + 9), .int p0] (hp mm_0 z) 0 0 (xq1 (.int 0) (hp mm_0 z)) from by
          refine ⟨rfl, Nat.le_of_ble_eq_true rfl, Nat.le_of_ble_eq_true rfl, fun X hX => xm_run hX 100000 _ _ _ _ _ _ ?_⟩
          conv => whnf
          refine ⟨fun _ => ?_, fun c => absurd c0 c⟩
          conv => whnf
          exact ⟨⟨.boolean, rfl, rfl⟩, rfl, rfl⟩
          all_goals rfl
          ) ?_⟩
      conv => whnf
      refine ⟨fun _ => ?_, fun c => absurd (by decide) c⟩
      conv => whnf
      exact ⟨⟨.int, rfl, rfl⟩, rfl, rfl⟩
      all_goals rfl
    ·
      refine ⟨rfl, Nat.le_of_ble_eq_true rfl, Nat.le_of_ble_eq_true rfl, fun X hX => xm_run hX 100000 _ _ _ _ _ _ ?_⟩
      conv => whnf
      rw [H.1]
      conv => whnf
      refine ⟨rfl, Nat.le_add_right _ _, Nat.le_of_ble_eq_true rfl, ⟨rfl, rfl⟩, ?_⟩
      rw [H.2.2.1 _ _ 108 (upd (mm_0.1 108) 0 0)]
      conv => whnf
      refine ⟨xw_O (by rw [H.1]; rfl), xw1 0 0 (Nat.le_of_ble_eq_true rfl) (Nat.zero_le _) (Nat.zero_le _) (show xm_M xp ac lo xp_fty xp_dfl (xp_sv ad as (b, L, xs)) 999 nm_X12_isCircuit [.ref (lo + 108), .int p0] (hp (mm_i mm_0 108 (upd (mm_0.1 108) 0 0)) z) 0 0 (xq1 (.int 0) (hp (mm_i mm_0 108 (upd (mm_0.1 108) 0 0)) z)) from by
          refine ⟨rfl, Nat.le_of_ble_eq_true rfl, Nat.le_of_ble_eq_true rfl, fun X hX => xm_run hX 100000 _ _ _ _ _ _ ?_⟩
          conv => whnf
          refine ⟨fun _ => ?_, fun c => absurd c0 c⟩
          conv => whnf
          exact ⟨⟨.boolean, rfl, rfl⟩, rfl, rfl⟩
          all_goals rfl
          ) ?_⟩
      conv => whnf
      refine ⟨fun _ => ?_, fun c => absurd (by decide) c⟩
      conv => whnf
      exact ⟨⟨.int, rfl, rfl⟩, rfl, rfl⟩
      all_goals rfl
  ·
    refine ⟨(-1), mm_0, (mm_i mm_0 108 (upd (mm_0.1 108) 0 0)), ?_, ?_, trivial⟩
    ·
      refine ⟨rfl, Nat.le_of_ble_eq_true rfl, Nat.le_of_ble_eq_true rfl, fun X hX => xm_run hX 100000 _ _ _ _ _ _ ?_⟩
      conv => whnf
      rw [H.1]
      conv => whnf
      refine ⟨rfl, ?_⟩
      conv => whnf
      refine ⟨xw_O (by rw [H.1]; rfl), xw1 0 0 (Nat.le_of_ble_eq_true rfl) (Nat.zero_le _) (Nat.zero_le _) (show xm_M xp ac lo xp_fty xp_dfl (xp_sv ad as (b, L, xs)) 999 nm_X0_has [.ref (lo + 9), .int p0] (hp mm_0 z) 0 0 (xq1 (.int 0) (hp mm_0 z)) from by
          refine ⟨rfl, Nat.le_of_ble_eq_true rfl, Nat.le_of_ble_eq_true rfl, fun X hX => xm_run hX 100000 _ _ _ _ _ _ ?_⟩
          conv => whnf
          refine ⟨fun c => absurd c c0, fun _ => ?_⟩
          conv => whnf
          rw [H.1]
          conv => whnf
          refine ⟨rfl, ?_⟩
          conv => whnf
          refine ⟨fun _ => ?_, fun c => absurd (Int32.not_lt.mp c0) c⟩
          conv => whnf
          exact ⟨⟨.boolean, rfl, rfl⟩, rfl, rfl⟩
          all_goals rfl
          ) ?_⟩
      conv => whnf
      refine ⟨fun _ => ?_, fun c => absurd (by decide) c⟩
      conv => whnf
      exact ⟨⟨.int, rfl, rfl⟩, rfl, rfl⟩
      all_goals rfl
    ·
      refine ⟨rfl, Nat.le_of_ble_eq_true rfl, Nat.le_of_ble_eq_true rfl, fun X hX => xm_run hX 100000 _ _ _ _ _ _ ?_⟩
      conv => whnf
      rw [H.1]
      conv => whnf
      refine ⟨rfl, Nat.le_add_right _ _, Nat.le_of_ble_eq_true rfl, ⟨rfl, rfl⟩, ?_⟩
      rw [H.2.2.1 _ _ 108 (upd (mm_0.1 108) 0 0)]
      conv => whnf
      refine ⟨xw_O (by rw [H.1]; rfl), xw1 0 0 (Nat.le_of_ble_eq_true rfl) (Nat.zero_le _) (Nat.zero_le _) (show xm_M xp ac lo xp_fty xp_dfl (xp_sv ad as (b, L, xs)) 999 nm_X12_isCircuit [.ref (lo + 108), .int p0] (hp (mm_i mm_0 108 (upd (mm_0.1 108) 0 0)) z) 0 0 (xq1 (.int 0) (hp (mm_i mm_0 108 (upd (mm_0.1 108) 0 0)) z)) from by
          refine ⟨rfl, Nat.le_of_ble_eq_true rfl, Nat.le_of_ble_eq_true rfl, fun X hX => xm_run hX 100000 _ _ _ _ _ _ ?_⟩
          conv => whnf
          refine ⟨fun c => absurd c c0, fun _ => ?_⟩
          conv => whnf
          rw [H.1]
          conv => whnf
          refine ⟨rfl, ?_⟩
          conv => whnf
          refine ⟨fun _ => ?_, fun c => absurd (Int32.not_lt.mp c0) c⟩
          conv => whnf
          exact ⟨⟨.boolean, rfl, rfl⟩, rfl, rfl⟩
          all_goals rfl
          ) ?_⟩
      conv => whnf
      refine ⟨fun _ => ?_, fun c => absurd (by decide) c⟩
      conv => whnf
      exact ⟨⟨.int, rfl, rfl⟩, rfl, rfl⟩
      all_goals rfl
set_option maxRecDepth 100000 in
set_option maxHeartbeats 4000000 in
theorem pk_24 (H : mm_L ac lo hp) : ∀ (p0 : Int32) (p1 : Int32), la_I ac lo ad as b L xs hp (fun M => M = mm_0) (fun _ => True) nm_X11_spider nm_X12_spider [.int p0, .int p1] := by
  intro p0 p1
  intro M z hM
  have hM : M = mm_0 := hM
  subst hM
  by_cases c0 : p0 < 0
  ·
    refine ⟨(-1), mm_0, (mm_i mm_0 108 (upd (mm_0.1 108) 0 0)), ?_, ?_, trivial⟩
    ·
      refine ⟨rfl, Nat.le_of_ble_eq_true rfl, Nat.le_of_ble_eq_true rfl, fun X hX => xm_run hX 100000 _ _ _ _ _ _ ?_⟩
      conv => whnf
      rw [H.1]
      conv => whnf
      refine ⟨rfl, ?_⟩
      conv => whnf
      refine ⟨xw_O (by rw [H.1]; rfl), xw1 0 0 (Nat.le_of_ble_eq_true rfl) (Nat.zero_le _) (Nat.zero_le _) (show xm_M xp ac lo xp_fty xp_dfl (xp_sv ad as (b, L, xs)) 999 nm_X10_isThere [.ref (lo + 39), .int p0] (hp mm_0 z) 0 0 (xq1 (.int 0) (hp mm_0 z)) from by
          refine ⟨rfl, Nat.le_of_ble_eq_true rfl, Nat.le_of_ble_eq_true rfl, fun X hX => xm_run hX 100000 _ _ _ _ _ _ ?_⟩
          conv => whnf
          refine ⟨fun _ => ?_, fun c => absurd c0 c⟩
          conv => whnf
          exact ⟨⟨.boolean, rfl, rfl⟩, rfl, rfl⟩
          all_goals rfl
          ) ?_⟩
      conv => whnf
      refine ⟨fun c => absurd (by decide) c, fun _ => ?_⟩
      conv => whnf
      exact ⟨⟨.int, rfl, rfl⟩, rfl, rfl⟩
      all_goals rfl
    ·
      refine ⟨rfl, Nat.le_of_ble_eq_true rfl, Nat.le_of_ble_eq_true rfl, fun X hX => xm_run hX 100000 _ _ _ _ _ _ ?_⟩
      conv => whnf
      rw [H.1]
      conv => whnf
      refine ⟨rfl, Nat.le_add_right _ _, Nat.le_of_ble_eq_true rfl, ⟨rfl, rfl⟩, ?_⟩
      rw [H.2.2.1 _ _ 108 (upd (mm_0.1 108) 0 0)]
      conv => whnf
      refine ⟨xw_O (by rw [H.1]; rfl), xw1 0 0 (Nat.le_of_ble_eq_true rfl) (Nat.zero_le _) (Nat.zero_le _) (show xm_M xp ac lo xp_fty xp_dfl (xp_sv ad as (b, L, xs)) 999 nm_X12_isSpider [.ref (lo + 108), .int p0] (hp (mm_i mm_0 108 (upd (mm_0.1 108) 0 0)) z) 0 0 (xq1 (.int 0) (hp (mm_i mm_0 108 (upd (mm_0.1 108) 0 0)) z)) from by
          refine ⟨rfl, Nat.le_of_ble_eq_true rfl, Nat.le_of_ble_eq_true rfl, fun X hX => xm_run hX 100000 _ _ _ _ _ _ ?_⟩
          conv => whnf
          rw [H.1]
          conv => whnf
          refine ⟨rfl, ?_⟩
          conv => whnf
          refine ⟨fun _ => ?_, fun c => absurd (by decide) c⟩
          conv => whnf
          exact ⟨⟨.boolean, rfl, rfl⟩, rfl, rfl⟩
          all_goals rfl
          ) ?_⟩
      conv => whnf
      refine ⟨fun c => absurd (by decide) c, fun _ => ?_⟩
      conv => whnf
      exact ⟨⟨.int, rfl, rfl⟩, rfl, rfl⟩
      all_goals rfl
  ·
    refine ⟨(-1), mm_0, (mm_i mm_0 108 (upd (mm_0.1 108) 0 0)), ?_, ?_, trivial⟩
    ·
      refine ⟨rfl, Nat.le_of_ble_eq_true rfl, Nat.le_of_ble_eq_true rfl, fun X hX => xm_run hX 100000 _ _ _ _ _ _ ?_⟩
      conv => whnf
      rw [H.1]
      conv => whnf
      refine ⟨rfl, ?_⟩
      conv => whnf
      refine ⟨xw_O (by rw [H.1]; rfl), xw1 0 0 (Nat.le_of_ble_eq_true rfl) (Nat.zero_le _) (Nat.zero_le _) (show xm_M xp ac lo xp_fty xp_dfl (xp_sv ad as (b, L, xs)) 999 nm_X10_isThere [.ref (lo + 39), .int p0] (hp mm_0 z) 0 0 (xq1 (.int 0) (hp mm_0 z)) from by
          refine ⟨rfl, Nat.le_of_ble_eq_true rfl, Nat.le_of_ble_eq_true rfl, fun X hX => xm_run hX 100000 _ _ _ _ _ _ ?_⟩
          conv => whnf
          refine ⟨fun c => absurd c c0, fun _ => ?_⟩
          conv => whnf
          rw [H.1]
          conv => whnf
          refine ⟨rfl, ?_⟩
          conv => whnf
          refine ⟨fun _ => ?_, fun c => absurd (Int32.not_lt.mp c0) c⟩
          conv => whnf
          exact ⟨⟨.boolean, rfl, rfl⟩, rfl, rfl⟩
          all_goals rfl
          ) ?_⟩
      conv => whnf
      refine ⟨fun c => absurd (by decide) c, fun _ => ?_⟩
      conv => whnf
      exact ⟨⟨.int, rfl, rfl⟩, rfl, rfl⟩
      all_goals rfl
    ·
      refine ⟨rfl, Nat.le_of_ble_eq_true rfl, Nat.le_of_ble_eq_true rfl, fun X hX => xm_run hX 100000 _ _ _ _ _ _ ?_⟩
      conv => whnf
      rw [H.1]
      conv => whnf
      refine ⟨rfl, Nat.le_add_right _ _, Nat.le_of_ble_eq_true rfl, ⟨rfl, rfl⟩, ?_⟩
      rw [H.2.2.1 _ _ 108 (upd (mm_0.1 108) 0 0)]
      conv => whnf
      refine ⟨xw_O (by rw [H.1]; rfl), xw1 0 0 (Nat.le_of_ble_eq_true rfl) (Nat.zero_le _) (Nat.zero_le _) (show xm_M xp ac lo xp_fty xp_dfl (xp_sv ad as (b, L, xs)) 999 nm_X12_isSpider [.ref (lo + 108), .int p0] (hp (mm_i mm_0 108 (upd (mm_0.1 108) 0 0)) z) 0 0 (xq1 (.int 0) (hp (mm_i mm_0 108 (upd (mm_0.1 108) 0 0)) z)) from by
          refine ⟨rfl, Nat.le_of_ble_eq_true rfl, Nat.le_of_ble_eq_true rfl, fun X hX => xm_run hX 100000 _ _ _ _ _ _ ?_⟩
          conv => whnf
          rw [H.1]
          conv => whnf
          refine ⟨rfl, ?_⟩
          conv => whnf
          refine ⟨fun _ => ?_, fun c => absurd (by decide) c⟩
          conv => whnf
          exact ⟨⟨.boolean, rfl, rfl⟩, rfl, rfl⟩
          all_goals rfl
          ) ?_⟩
      conv => whnf
      refine ⟨fun c => absurd (by decide) c, fun _ => ?_⟩
      conv => whnf
      exact ⟨⟨.int, rfl, rfl⟩, rfl, rfl⟩
      all_goals rfl
set_option maxRecDepth 100000 in
set_option maxHeartbeats 4000000 in
theorem pk_25 (H : mm_L ac lo hp) : ∀ (p0 : Int32) (p1 : Int32) (p2 : Int32), la_I ac lo ad as b L xs hp (fun M => M = mm_0) (fun _ => True) nm_X11_rewrite nm_X12_rewrite [.int p0, .int p1, .int p2] := by
  intro p0 p1 p2
  intro M z hM
  have hM : M = mm_0 := hM
  subst hM
  by_cases c0 : p0 = 1
  ·
    by_cases c1 : p1 < 0
    ·
      refine ⟨0, mm_0, (mm_i mm_0 108 (upd (mm_0.1 108) 0 0)), ?_, ?_, trivial⟩
      ·
        refine ⟨rfl, Nat.le_of_ble_eq_true rfl, Nat.le_of_ble_eq_true rfl, fun X hX => xm_run hX 100000 _ _ _ _ _ _ ?_⟩
        conv => whnf
        rw [H.1]
        conv => whnf
        refine ⟨rfl, ?_⟩
        conv => whnf
        refine ⟨xw_O (by rw [H.1]; rfl), xw1 0 0 (Nat.le_of_ble_eq_true rfl) (Nat.zero_le _) (Nat.zero_le _) (show xm_M xp ac lo xp_fty xp_dfl (xp_sv ad as (b, L, xs)) 999 nm_X10_doRule [.ref (lo + 39), .int p0, .int p1, .int p2] (hp mm_0 z) 0 0 (xq1 (.int 0) (hp mm_0 z)) from by
            refine ⟨rfl, Nat.le_of_ble_eq_true rfl, Nat.le_of_ble_eq_true rfl, fun X hX => xm_run hX 100000 _ _ _ _ _ _ ?_⟩
            conv => whnf
            refine ⟨fun _ => ?_, fun c => absurd c0 c⟩
            conv => whnf
            refine ⟨xw_O (by rw [H.1]; rfl), xw1 0 0 (Nat.le_of_ble_eq_true rfl) (Nat.zero_le _) (Nat.zero_le _) (show xm_M xp ac lo xp_fty xp_dfl (xp_sv ad as (b, L, xs)) 998 nm_X10_fuse [.ref (lo + 39), .int p1, .int p2] (hp mm_0 z) 0 0 (xq1 (.int 0) (hp mm_0 z)) from by
                refine ⟨rfl, Nat.le_of_ble_eq_true rfl, Nat.le_of_ble_eq_true rfl, fun X hX => xm_run hX 100000 _ _ _ _ _ _ ?_⟩
                conv => whnf
                refine ⟨xw_O (by rw [H.1]; rfl), xw1 0 0 (Nat.le_of_ble_eq_true rfl) (Nat.zero_le _) (Nat.zero_le _) (show xm_M xp ac lo xp_fty xp_dfl (xp_sv ad as (b, L, xs)) 997 nm_X10_isInner [.ref (lo + 39), .int p1] (hp mm_0 z) 0 0 (xq1 (.int 0) (hp mm_0 z)) from by
                    refine ⟨rfl, Nat.le_of_ble_eq_true rfl, Nat.le_of_ble_eq_true rfl, fun X hX => xm_run hX 100000 _ _ _ _ _ _ ?_⟩
                    conv => whnf
                    rw [H.1]
                    conv => whnf
                    refine ⟨rfl, ?_⟩
                    conv => whnf
                    refine ⟨fun _ => ?_, fun c => absurd c1 c⟩
                    conv => whnf
                    exact ⟨⟨.boolean, rfl, rfl⟩, rfl, rfl⟩
                    all_goals rfl
                    ) ?_⟩
                conv => whnf
                refine ⟨fun _ => ?_, fun c => absurd (by decide) c⟩
                conv => whnf
                exact ⟨⟨.boolean, rfl, rfl⟩, rfl, rfl⟩
                all_goals rfl
                ) ?_⟩
            conv => whnf
            exact ⟨⟨.boolean, rfl, rfl⟩, rfl, rfl⟩
            all_goals rfl
            ) ?_⟩
        conv => whnf
        exact ⟨⟨.boolean, rfl, rfl⟩, rfl, rfl⟩
        all_goals rfl
      ·
        refine ⟨rfl, Nat.le_of_ble_eq_true rfl, Nat.le_of_ble_eq_true rfl, fun X hX => xm_run hX 100000 _ _ _ _ _ _ ?_⟩
        conv => whnf
        rw [H.1]
        conv => whnf
        refine ⟨rfl, Nat.le_add_right _ _, Nat.le_of_ble_eq_true rfl, ⟨rfl, rfl⟩, ?_⟩
        rw [H.2.2.1 _ _ 108 (upd (mm_0.1 108) 0 0)]
        conv => whnf
        rw [H.1]
        conv => whnf
        refine ⟨rfl, ?_⟩
        conv => whnf
        refine ⟨fun _ => ?_, fun c => absurd (by decide) c⟩
        conv => whnf
        exact ⟨⟨.boolean, rfl, rfl⟩, rfl, rfl⟩
        all_goals rfl
    ·
      refine ⟨0, mm_0, (mm_i mm_0 108 (upd (mm_0.1 108) 0 0)), ?_, ?_, trivial⟩
      ·
        refine ⟨rfl, Nat.le_of_ble_eq_true rfl, Nat.le_of_ble_eq_true rfl, fun X hX => xm_run hX 100000 _ _ _ _ _ _ ?_⟩
        conv => whnf
        rw [H.1]
        conv => whnf
        refine ⟨rfl, ?_⟩
        conv => whnf
        refine ⟨xw_O (by rw [H.1]; rfl), xw1 0 0 (Nat.le_of_ble_eq_true rfl) (Nat.zero_le _) (Nat.zero_le _) (show xm_M xp ac lo xp_fty xp_dfl (xp_sv ad as (b, L, xs)) 999 nm_X10_doRule [.ref (lo + 39), .int p0, .int p1, .int p2] (hp mm_0 z) 0 0 (xq1 (.int 0) (hp mm_0 z)) from by
            refine ⟨rfl, Nat.le_of_ble_eq_true rfl, Nat.le_of_ble_eq_true rfl, fun X hX => xm_run hX 100000 _ _ _ _ _ _ ?_⟩
            conv => whnf
            refine ⟨fun _ => ?_, fun c => absurd c0 c⟩
            conv => whnf
            refine ⟨xw_O (by rw [H.1]; rfl), xw1 0 0 (Nat.le_of_ble_eq_true rfl) (Nat.zero_le _) (Nat.zero_le _) (show xm_M xp ac lo xp_fty xp_dfl (xp_sv ad as (b, L, xs)) 998 nm_X10_fuse [.ref (lo + 39), .int p1, .int p2] (hp mm_0 z) 0 0 (xq1 (.int 0) (hp mm_0 z)) from by
                refine ⟨rfl, Nat.le_of_ble_eq_true rfl, Nat.le_of_ble_eq_true rfl, fun X hX => xm_run hX 100000 _ _ _ _ _ _ ?_⟩
                conv => whnf
                refine ⟨xw_O (by rw [H.1]; rfl), xw1 0 0 (Nat.le_of_ble_eq_true rfl) (Nat.zero_le _) (Nat.zero_le _) (show xm_M xp ac lo xp_fty xp_dfl (xp_sv ad as (b, L, xs)) 997 nm_X10_isInner [.ref (lo + 39), .int p1] (hp mm_0 z) 0 0 (xq1 (.int 0) (hp mm_0 z)) from by
                    refine ⟨rfl, Nat.le_of_ble_eq_true rfl, Nat.le_of_ble_eq_true rfl, fun X hX => xm_run hX 100000 _ _ _ _ _ _ ?_⟩
                    conv => whnf
                    rw [H.1]
                    conv => whnf
                    refine ⟨rfl, ?_⟩
                    conv => whnf
                    refine ⟨fun c => absurd c c1, fun _ => ?_⟩
                    conv => whnf
                    refine ⟨xw_O (by rw [H.1]; rfl), xw1 0 0 (Nat.le_of_ble_eq_true rfl) (Nat.zero_le _) (Nat.zero_le _) (show xm_M xp ac lo xp_fty xp_dfl (xp_sv ad as (b, L, xs)) 996 nm_X10_isThere [.ref (lo + 39), .int p1] (hp mm_0 z) 0 0 (xq1 (.int 0) (hp mm_0 z)) from by
                        refine ⟨rfl, Nat.le_of_ble_eq_true rfl, Nat.le_of_ble_eq_true rfl, fun X hX => xm_run hX 100000 _ _ _ _ _ _ ?_⟩
                        conv => whnf
                        refine ⟨fun c => absurd c c1, fun _ => ?_⟩
                        conv => whnf
                        rw [H.1]
                        conv => whnf
                        refine ⟨rfl, ?_⟩
                        conv => whnf
                        refine ⟨fun _ => ?_, fun c => absurd (Int32.not_lt.mp c1) c⟩
                        conv => whnf
                        exact ⟨⟨.boolean, rfl, rfl⟩, rfl, rfl⟩
                        all_goals rfl
                        ) ?_⟩
                    conv => whnf
                    refine ⟨fun _ => ?_, fun c => absurd (by decide) c⟩
                    conv => whnf
                    exact ⟨⟨.boolean, rfl, rfl⟩, rfl, rfl⟩
                    all_goals rfl
                    ) ?_⟩
                conv => whnf
                refine ⟨fun _ => ?_, fun c => absurd (by decide) c⟩
                conv => whnf
                exact ⟨⟨.boolean, rfl, rfl⟩, rfl, rfl⟩
                all_goals rfl
                ) ?_⟩
            conv => whnf
            exact ⟨⟨.boolean, rfl, rfl⟩, rfl, rfl⟩
            all_goals rfl
            ) ?_⟩
        conv => whnf
        exact ⟨⟨.boolean, rfl, rfl⟩, rfl, rfl⟩
        all_goals rfl
      ·
        refine ⟨rfl, Nat.le_of_ble_eq_true rfl, Nat.le_of_ble_eq_true rfl, fun X hX => xm_run hX 100000 _ _ _ _ _ _ ?_⟩
        conv => whnf
        rw [H.1]
        conv => whnf
        refine ⟨rfl, Nat.le_add_right _ _, Nat.le_of_ble_eq_true rfl, ⟨rfl, rfl⟩, ?_⟩
        rw [H.2.2.1 _ _ 108 (upd (mm_0.1 108) 0 0)]
        conv => whnf
        rw [H.1]
        conv => whnf
        refine ⟨rfl, ?_⟩
        conv => whnf
        refine ⟨fun _ => ?_, fun c => absurd (by decide) c⟩
        conv => whnf
        exact ⟨⟨.boolean, rfl, rfl⟩, rfl, rfl⟩
        all_goals rfl
  ·
    by_cases c1 : p0 = 2
    ·
      by_cases c2 : p1 < 0
      ·
        refine ⟨0, mm_0, (mm_i mm_0 108 (upd (mm_0.1 108) 0 0)), ?_, ?_, trivial⟩
        ·
          refine ⟨rfl, Nat.le_of_ble_eq_true rfl, Nat.le_of_ble_eq_true rfl, fun X hX => xm_run hX 100000 _ _ _ _ _ _ ?_⟩
          conv => whnf
          rw [H.1]
          conv => whnf
          refine ⟨rfl, ?_⟩
          conv => whnf
          refine ⟨xw_O (by rw [H.1]; rfl), xw1 0 0 (Nat.le_of_ble_eq_true rfl) (Nat.zero_le _) (Nat.zero_le _) (show xm_M xp ac lo xp_fty xp_dfl (xp_sv ad as (b, L, xs)) 999 nm_X10_doRule [.ref (lo + 39), .int p0, .int p1, .int p2] (hp mm_0 z) 0 0 (xq1 (.int 0) (hp mm_0 z)) from by
              refine ⟨rfl, Nat.le_of_ble_eq_true rfl, Nat.le_of_ble_eq_true rfl, fun X hX => xm_run hX 100000 _ _ _ _ _ _ ?_⟩
              conv => whnf
              refine ⟨fun c => absurd c c0, fun _ => ?_⟩
              conv => whnf
              refine ⟨fun _ => ?_, fun c => absurd c1 c⟩
              conv => whnf
              refine ⟨xw_O (by rw [H.1]; rfl), xw1 0 0 (Nat.le_of_ble_eq_true rfl) (Nat.zero_le _) (Nat.zero_le _) (show xm_M xp ac lo xp_fty xp_dfl (xp_sv ad as (b, L, xs)) 998 nm_X10_skip [.ref (lo + 39), .int p1] (hp mm_0 z) 0 0 (xq1 (.int 0) (hp mm_0 z)) from by
                  refine ⟨rfl, Nat.le_of_ble_eq_true rfl, Nat.le_of_ble_eq_true rfl, fun X hX => xm_run hX 100000 _ _ _ _ _ _ ?_⟩
                  conv => whnf
                  refine ⟨xw_O (by rw [H.1]; rfl), xw1 0 0 (Nat.le_of_ble_eq_true rfl) (Nat.zero_le _) (Nat.zero_le _) (show xm_M xp ac lo xp_fty xp_dfl (xp_sv ad as (b, L, xs)) 997 nm_X10_isInner [.ref (lo + 39), .int p1] (hp mm_0 z) 0 0 (xq1 (.int 0) (hp mm_0 z)) from by
                      refine ⟨rfl, Nat.le_of_ble_eq_true rfl, Nat.le_of_ble_eq_true rfl, fun X hX => xm_run hX 100000 _ _ _ _ _ _ ?_⟩
                      conv => whnf
                      rw [H.1]
                      conv => whnf
                      refine ⟨rfl, ?_⟩
                      conv => whnf
                      refine ⟨fun _ => ?_, fun c => absurd c2 c⟩
                      conv => whnf
                      exact ⟨⟨.boolean, rfl, rfl⟩, rfl, rfl⟩
                      all_goals rfl
                      ) ?_⟩
                  conv => whnf
                  refine ⟨fun _ => ?_, fun c => absurd (by decide) c⟩
                  conv => whnf
                  exact ⟨⟨.boolean, rfl, rfl⟩, rfl, rfl⟩
                  all_goals rfl
                  ) ?_⟩
              conv => whnf
              exact ⟨⟨.boolean, rfl, rfl⟩, rfl, rfl⟩
              all_goals rfl
              ) ?_⟩
          conv => whnf
          exact ⟨⟨.boolean, rfl, rfl⟩, rfl, rfl⟩
          all_goals rfl
        ·
          refine ⟨rfl, Nat.le_of_ble_eq_true rfl, Nat.le_of_ble_eq_true rfl, fun X hX => xm_run hX 100000 _ _ _ _ _ _ ?_⟩
          conv => whnf
          rw [H.1]
          conv => whnf
          refine ⟨rfl, Nat.le_add_right _ _, Nat.le_of_ble_eq_true rfl, ⟨rfl, rfl⟩, ?_⟩
          rw [H.2.2.1 _ _ 108 (upd (mm_0.1 108) 0 0)]
          conv => whnf
          rw [H.1]
          conv => whnf
          refine ⟨rfl, ?_⟩
          conv => whnf
          refine ⟨fun _ => ?_, fun c => absurd (by decide) c⟩
          conv => whnf
          exact ⟨⟨.boolean, rfl, rfl⟩, rfl, rfl⟩
          all_goals rfl
      ·
        refine ⟨0, mm_0, (mm_i mm_0 108 (upd (mm_0.1 108) 0 0)), ?_, ?_, trivial⟩
        ·
          refine ⟨rfl, Nat.le_of_ble_eq_true rfl, Nat.le_of_ble_eq_true rfl, fun X hX => xm_run hX 100000 _ _ _ _ _ _ ?_⟩
          conv => whnf
          rw [H.1]
          conv => whnf
          refine ⟨rfl, ?_⟩
          conv => whnf
          refine ⟨xw_O (by rw [H.1]; rfl), xw1 0 0 (Nat.le_of_ble_eq_true rfl) (Nat.zero_le _) (Nat.zero_le _) (show xm_M xp ac lo xp_fty xp_dfl (xp_sv ad as (b, L, xs)) 999 nm_X10_doRule [.ref (lo + 39), .int p0, .int p1, .int p2] (hp mm_0 z) 0 0 (xq1 (.int 0) (hp mm_0 z)) from by
              refine ⟨rfl, Nat.le_of_ble_eq_true rfl, Nat.le_of_ble_eq_true rfl, fun X hX => xm_run hX 100000 _ _ _ _ _ _ ?_⟩
              conv => whnf
              refine ⟨fun c => absurd c c0, fun _ => ?_⟩
              conv => whnf
              refine ⟨fun _ => ?_, fun c => absurd c1 c⟩
              conv => whnf
              refine ⟨xw_O (by rw [H.1]; rfl), xw1 0 0 (Nat.le_of_ble_eq_true rfl) (Nat.zero_le _) (Nat.zero_le _) (show xm_M xp ac lo xp_fty xp_dfl (xp_sv ad as (b, L, xs)) 998 nm_X10_skip [.ref (lo + 39), .int p1] (hp mm_0 z) 0 0 (xq1 (.int 0) (hp mm_0 z)) from by
                  refine ⟨rfl, Nat.le_of_ble_eq_true rfl, Nat.le_of_ble_eq_true rfl, fun X hX => xm_run hX 100000 _ _ _ _ _ _ ?_⟩
                  conv => whnf
                  refine ⟨xw_O (by rw [H.1]; rfl), xw1 0 0 (Nat.le_of_ble_eq_true rfl) (Nat.zero_le _) (Nat.zero_le _) (show xm_M xp ac lo xp_fty xp_dfl (xp_sv ad as (b, L, xs)) 997 nm_X10_isInner [.ref (lo + 39), .int p1] (hp mm_0 z) 0 0 (xq1 (.int 0) (hp mm_0 z)) from by
                      refine ⟨rfl, Nat.le_of_ble_eq_true rfl, Nat.le_of_ble_eq_true rfl, fun X hX => xm_run hX 100000 _ _ _ _ _ _ ?_⟩
                      conv => whnf
                      rw [H.1]
                      conv => whnf
                      refine ⟨rfl, ?_⟩
                      conv => whnf
                      refine ⟨fun c => absurd c c2, fun _ => ?_⟩
                      conv => whnf
                      refine ⟨xw_O (by rw [H.1]; rfl), xw1 0 0 (Nat.le_of_ble_eq_true rfl) (Nat.zero_le _) (Nat.zero_le _) (show xm_M xp ac lo xp_fty xp_dfl (xp_sv ad as (b, L, xs)) 996 nm_X10_isThere [.ref (lo + 39), .int p1] (hp mm_0 z) 0 0 (xq1 (.int 0) (hp mm_0 z)) from by
                          refine ⟨rfl, Nat.le_of_ble_eq_true rfl, Nat.le_of_ble_eq_true rfl, fun X hX => xm_run hX 100000 _ _ _ _ _ _ ?_⟩
                          conv => whnf
                          refine ⟨fun c => absurd c c2, fun _ => ?_⟩
                          conv => whnf
                          rw [H.1]
                          conv => whnf
                          refine ⟨rfl, ?_⟩
                          conv => whnf
                          refine ⟨fun _ => ?_, fun c => absurd (Int32.not_lt.mp c2) c⟩
                          conv => whnf
                          exact ⟨⟨.boolean, rfl, rfl⟩, rfl, rfl⟩
                          all_goals rfl
                          ) ?_⟩
                      conv => whnf
                      refine ⟨fun _ => ?_, fun c => absurd (by decide) c⟩
                      conv => whnf
                      exact ⟨⟨.boolean, rfl, rfl⟩, rfl, rfl⟩
                      all_goals rfl
                      ) ?_⟩
                  conv => whnf
                  refine ⟨fun _ => ?_, fun c => absurd (by decide) c⟩
                  conv => whnf
                  exact ⟨⟨.boolean, rfl, rfl⟩, rfl, rfl⟩
                  all_goals rfl
                  ) ?_⟩
              conv => whnf
              exact ⟨⟨.boolean, rfl, rfl⟩, rfl, rfl⟩
              all_goals rfl
              ) ?_⟩
          conv => whnf
          exact ⟨⟨.boolean, rfl, rfl⟩, rfl, rfl⟩
          all_goals rfl
        ·
          refine ⟨rfl, Nat.le_of_ble_eq_true rfl, Nat.le_of_ble_eq_true rfl, fun X hX => xm_run hX 100000 _ _ _ _ _ _ ?_⟩
          conv => whnf
          rw [H.1]
          conv => whnf
          refine ⟨rfl, Nat.le_add_right _ _, Nat.le_of_ble_eq_true rfl, ⟨rfl, rfl⟩, ?_⟩
          rw [H.2.2.1 _ _ 108 (upd (mm_0.1 108) 0 0)]
          conv => whnf
          rw [H.1]
          conv => whnf
          refine ⟨rfl, ?_⟩
          conv => whnf
          refine ⟨fun _ => ?_, fun c => absurd (by decide) c⟩
          conv => whnf
          exact ⟨⟨.boolean, rfl, rfl⟩, rfl, rfl⟩
          all_goals rfl
    ·
      by_cases c2 : p0 = 3
      ·
        by_cases c3 : p1 < 0
        ·
          refine ⟨0, mm_0, (mm_i mm_0 108 (upd (mm_0.1 108) 0 0)), ?_, ?_, trivial⟩
          ·
            refine ⟨rfl, Nat.le_of_ble_eq_true rfl, Nat.le_of_ble_eq_true rfl, fun X hX => xm_run hX 100000 _ _ _ _ _ _ ?_⟩
            conv => whnf
            rw [H.1]
            conv => whnf
            refine ⟨rfl, ?_⟩
            conv => whnf
            refine ⟨xw_O (by rw [H.1]; rfl), xw1 0 0 (Nat.le_of_ble_eq_true rfl) (Nat.zero_le _) (Nat.zero_le _) (show xm_M xp ac lo xp_fty xp_dfl (xp_sv ad as (b, L, xs)) 999 nm_X10_doRule [.ref (lo + 39), .int p0, .int p1, .int p2] (hp mm_0 z) 0 0 (xq1 (.int 0) (hp mm_0 z)) from by
                refine ⟨rfl, Nat.le_of_ble_eq_true rfl, Nat.le_of_ble_eq_true rfl, fun X hX => xm_run hX 100000 _ _ _ _ _ _ ?_⟩
                conv => whnf
                refine ⟨fun c => absurd c c0, fun _ => ?_⟩
                conv => whnf
                refine ⟨fun c => absurd c c1, fun _ => ?_⟩
                conv => whnf
                refine ⟨fun _ => ?_, fun c => absurd c2 c⟩
                conv => whnf
                refine ⟨xw_O (by rw [H.1]; rfl), xw1 0 0 (Nat.le_of_ble_eq_true rfl) (Nat.zero_le _) (Nat.zero_le _) (show xm_M xp ac lo xp_fty xp_dfl (xp_sv ad as (b, L, xs)) 998 nm_X10_complement [.ref (lo + 39), .int p1] (hp mm_0 z) 0 0 (xq1 (.int 0) (hp mm_0 z)) from by
                    refine ⟨rfl, Nat.le_of_ble_eq_true rfl, Nat.le_of_ble_eq_true rfl, fun X hX => xm_run hX 100000 _ _ _ _ _ _ ?_⟩
                    conv => whnf
                    refine ⟨xw_O (by rw [H.1]; rfl), xw1 0 0 (Nat.le_of_ble_eq_true rfl) (Nat.zero_le _) (Nat.zero_le _) (show xm_M xp ac lo xp_fty xp_dfl (xp_sv ad as (b, L, xs)) 997 nm_X10_isInner [.ref (lo + 39), .int p1] (hp mm_0 z) 0 0 (xq1 (.int 0) (hp mm_0 z)) from by
                        refine ⟨rfl, Nat.le_of_ble_eq_true rfl, Nat.le_of_ble_eq_true rfl, fun X hX => xm_run hX 100000 _ _ _ _ _ _ ?_⟩
                        conv => whnf
                        rw [H.1]
                        conv => whnf
                        refine ⟨rfl, ?_⟩
                        conv => whnf
                        refine ⟨fun _ => ?_, fun c => absurd c3 c⟩
                        conv => whnf
                        exact ⟨⟨.boolean, rfl, rfl⟩, rfl, rfl⟩
                        all_goals rfl
                        ) ?_⟩
                    conv => whnf
                    refine ⟨fun _ => ?_, fun c => absurd (by decide) c⟩
                    conv => whnf
                    exact ⟨⟨.boolean, rfl, rfl⟩, rfl, rfl⟩
                    all_goals rfl
                    ) ?_⟩
                conv => whnf
                exact ⟨⟨.boolean, rfl, rfl⟩, rfl, rfl⟩
                all_goals rfl
                ) ?_⟩
            conv => whnf
            exact ⟨⟨.boolean, rfl, rfl⟩, rfl, rfl⟩
            all_goals rfl
          ·
            refine ⟨rfl, Nat.le_of_ble_eq_true rfl, Nat.le_of_ble_eq_true rfl, fun X hX => xm_run hX 100000 _ _ _ _ _ _ ?_⟩
            conv => whnf
            rw [H.1]
            conv => whnf
            refine ⟨rfl, Nat.le_add_right _ _, Nat.le_of_ble_eq_true rfl, ⟨rfl, rfl⟩, ?_⟩
            rw [H.2.2.1 _ _ 108 (upd (mm_0.1 108) 0 0)]
            conv => whnf
            rw [H.1]
            conv => whnf
            refine ⟨rfl, ?_⟩
            conv => whnf
            refine ⟨fun _ => ?_, fun c => absurd (by decide) c⟩
            conv => whnf
            exact ⟨⟨.boolean, rfl, rfl⟩, rfl, rfl⟩
            all_goals rfl
        ·
          refine ⟨0, mm_0, (mm_i mm_0 108 (upd (mm_0.1 108) 0 0)), ?_, ?_, trivial⟩
          ·
            refine ⟨rfl, Nat.le_of_ble_eq_true rfl, Nat.le_of_ble_eq_true rfl, fun X hX => xm_run hX 100000 _ _ _ _ _ _ ?_⟩
            conv => whnf
            rw [H.1]
            conv => whnf
            refine ⟨rfl, ?_⟩
            conv => whnf
            refine ⟨xw_O (by rw [H.1]; rfl), xw1 0 0 (Nat.le_of_ble_eq_true rfl) (Nat.zero_le _) (Nat.zero_le _) (show xm_M xp ac lo xp_fty xp_dfl (xp_sv ad as (b, L, xs)) 999 nm_X10_doRule [.ref (lo + 39), .int p0, .int p1, .int p2] (hp mm_0 z) 0 0 (xq1 (.int 0) (hp mm_0 z)) from by
                refine ⟨rfl, Nat.le_of_ble_eq_true rfl, Nat.le_of_ble_eq_true rfl, fun X hX => xm_run hX 100000 _ _ _ _ _ _ ?_⟩
                conv => whnf
                refine ⟨fun c => absurd c c0, fun _ => ?_⟩
                conv => whnf
                refine ⟨fun c => absurd c c1, fun _ => ?_⟩
                conv => whnf
                refine ⟨fun _ => ?_, fun c => absurd c2 c⟩
                conv => whnf
                refine ⟨xw_O (by rw [H.1]; rfl), xw1 0 0 (Nat.le_of_ble_eq_true rfl) (Nat.zero_le _) (Nat.zero_le _) (show xm_M xp ac lo xp_fty xp_dfl (xp_sv ad as (b, L, xs)) 998 nm_X10_complement [.ref (lo + 39), .int p1] (hp mm_0 z) 0 0 (xq1 (.int 0) (hp mm_0 z)) from by
                    refine ⟨rfl, Nat.le_of_ble_eq_true rfl, Nat.le_of_ble_eq_true rfl, fun X hX => xm_run hX 100000 _ _ _ _ _ _ ?_⟩
                    conv => whnf
                    refine ⟨xw_O (by rw [H.1]; rfl), xw1 0 0 (Nat.le_of_ble_eq_true rfl) (Nat.zero_le _) (Nat.zero_le _) (show xm_M xp ac lo xp_fty xp_dfl (xp_sv ad as (b, L, xs)) 997 nm_X10_isInner [.ref (lo + 39), .int p1] (hp mm_0 z) 0 0 (xq1 (.int 0) (hp mm_0 z)) from by
                        refine ⟨rfl, Nat.le_of_ble_eq_true rfl, Nat.le_of_ble_eq_true rfl, fun X hX => xm_run hX 100000 _ _ _ _ _ _ ?_⟩
                        conv => whnf
                        rw [H.1]
                        conv => whnf
                        refine ⟨rfl, ?_⟩
                        conv => whnf
                        refine ⟨fun c => absurd c c3, fun _ => ?_⟩
                        conv => whnf
                        refine ⟨xw_O (by rw [H.1]; rfl), xw1 0 0 (Nat.le_of_ble_eq_true rfl) (Nat.zero_le _) (Nat.zero_le _) (show xm_M xp ac lo xp_fty xp_dfl (xp_sv ad as (b, L, xs)) 996 nm_X10_isThere [.ref (lo + 39), .int p1] (hp mm_0 z) 0 0 (xq1 (.int 0) (hp mm_0 z)) from by
                            refine ⟨rfl, Nat.le_of_ble_eq_true rfl, Nat.le_of_ble_eq_true rfl, fun X hX => xm_run hX 100000 _ _ _ _ _ _ ?_⟩
                            conv => whnf
                            refine ⟨fun c => absurd c c3, fun _ => ?_⟩
                            conv => whnf
                            rw [H.1]
                            conv => whnf
                            refine ⟨rfl, ?_⟩
                            conv => whnf
                            refine ⟨fun _ => ?_, fun c => absurd (Int32.not_lt.mp c3) c⟩
                            conv => whnf
                            exact ⟨⟨.boolean, rfl, rfl⟩, rfl, rfl⟩
                            all_goals rfl
                            ) ?_⟩
                        conv => whnf
                        refine ⟨fun _ => ?_, fun c => absurd (by decide) c⟩
                        conv => whnf
                        exact ⟨⟨.boolean, rfl, rfl⟩, rfl, rfl⟩
                        all_goals rfl
                        ) ?_⟩
                    conv => whnf
                    refine ⟨fun _ => ?_, fun c => absurd (by decide) c⟩
                    conv => whnf
                    exact ⟨⟨.boolean, rfl, rfl⟩, rfl, rfl⟩
                    all_goals rfl
                    ) ?_⟩
                conv => whnf
                exact ⟨⟨.boolean, rfl, rfl⟩, rfl, rfl⟩
                all_goals rfl
                ) ?_⟩
            conv => whnf
            exact ⟨⟨.boolean, rfl, rfl⟩, rfl, rfl⟩
            all_goals rfl
          ·
            refine ⟨rfl, Nat.le_of_ble_eq_true rfl, Nat.le_of_ble_eq_true rfl, fun X hX => xm_run hX 100000 _ _ _ _ _ _ ?_⟩
            conv => whnf
            rw [H.1]
            conv => whnf
            refine ⟨rfl, Nat.le_add_right _ _, Nat.le_of_ble_eq_true rfl, ⟨rfl, rfl⟩, ?_⟩
            rw [H.2.2.1 _ _ 108 (upd (mm_0.1 108) 0 0)]
            conv => whnf
            rw [H.1]
            conv => whnf
            refine ⟨rfl, ?_⟩
            conv => whnf
            refine ⟨fun _ => ?_, fun c => absurd (by decide) c⟩
            conv => whnf
            exact ⟨⟨.boolean, rfl, rfl⟩, rfl, rfl⟩
            all_goals rfl
      ·
        by_cases c3 : p0 = 4
        ·
          by_cases c4 : p1 < 0
          ·
            refine ⟨0, mm_0, (mm_i mm_0 108 (upd (mm_0.1 108) 0 0)), ?_, ?_, trivial⟩
            ·
              refine ⟨rfl, Nat.le_of_ble_eq_true rfl, Nat.le_of_ble_eq_true rfl, fun X hX => xm_run hX 100000 _ _ _ _ _ _ ?_⟩
              conv => whnf
              rw [H.1]
              conv => whnf
              refine ⟨rfl, ?_⟩
              conv => whnf
              refine ⟨xw_O (by rw [H.1]; rfl), xw1 0 0 (Nat.le_of_ble_eq_true rfl) (Nat.zero_le _) (Nat.zero_le _) (show xm_M xp ac lo xp_fty xp_dfl (xp_sv ad as (b, L, xs)) 999 nm_X10_doRule [.ref (lo + 39), .int p0, .int p1, .int p2] (hp mm_0 z) 0 0 (xq1 (.int 0) (hp mm_0 z)) from by
                  refine ⟨rfl, Nat.le_of_ble_eq_true rfl, Nat.le_of_ble_eq_true rfl, fun X hX => xm_run hX 100000 _ _ _ _ _ _ ?_⟩
                  conv => whnf
                  refine ⟨fun c => absurd c c0, fun _ => ?_⟩
                  conv => whnf
                  refine ⟨fun c => absurd c c1, fun _ => ?_⟩
                  conv => whnf
                  refine ⟨fun c => absurd c c2, fun _ => ?_⟩
                  conv => whnf
                  refine ⟨fun _ => ?_, fun c => absurd c3 c⟩
                  conv => whnf
                  refine ⟨xw_O (by rw [H.1]; rfl), xw1 0 0 (Nat.le_of_ble_eq_true rfl) (Nat.zero_le _) (Nat.zero_le _) (show xm_M xp ac lo xp_fty xp_dfl (xp_sv ad as (b, L, xs)) 998 nm_X10_pivot [.ref (lo + 39), .int p1, .int p2] (hp mm_0 z) 0 0 (xq1 (.int 0) (hp mm_0 z)) from by
                      refine ⟨rfl, Nat.le_of_ble_eq_true rfl, Nat.le_of_ble_eq_true rfl, fun X hX => xm_run hX 100000 _ _ _ _ _ _ ?_⟩
                      conv => whnf
                      refine ⟨xw_O (by rw [H.1]; rfl), xw1 0 0 (Nat.le_of_ble_eq_true rfl) (Nat.zero_le _) (Nat.zero_le _) (show xm_M xp ac lo xp_fty xp_dfl (xp_sv ad as (b, L, xs)) 997 nm_X10_isInner [.ref (lo + 39), .int p1] (hp mm_0 z) 0 0 (xq1 (.int 0) (hp mm_0 z)) from by
                          refine ⟨rfl, Nat.le_of_ble_eq_true rfl, Nat.le_of_ble_eq_true rfl, fun X hX => xm_run hX 100000 _ _ _ _ _ _ ?_⟩
                          conv => whnf
                          rw [H.1]
                          conv => whnf
                          refine ⟨rfl, ?_⟩
                          conv => whnf
                          refine ⟨fun _ => ?_, fun c => absurd c4 c⟩
                          conv => whnf
                          exact ⟨⟨.boolean, rfl, rfl⟩, rfl, rfl⟩
                          all_goals rfl
                          ) ?_⟩
                      conv => whnf
                      refine ⟨fun _ => ?_, fun c => absurd (by decide) c⟩
                      conv => whnf
                      exact ⟨⟨.boolean, rfl, rfl⟩, rfl, rfl⟩
                      all_goals rfl
                      ) ?_⟩
                  conv => whnf
                  exact ⟨⟨.boolean, rfl, rfl⟩, rfl, rfl⟩
                  all_goals rfl
                  ) ?_⟩
              conv => whnf
              exact ⟨⟨.boolean, rfl, rfl⟩, rfl, rfl⟩
              all_goals rfl
            ·
              refine ⟨rfl, Nat.le_of_ble_eq_true rfl, Nat.le_of_ble_eq_true rfl, fun X hX => xm_run hX 100000 _ _ _ _ _ _ ?_⟩
              conv => whnf
              rw [H.1]
              conv => whnf
              refine ⟨rfl, Nat.le_add_right _ _, Nat.le_of_ble_eq_true rfl, ⟨rfl, rfl⟩, ?_⟩
              rw [H.2.2.1 _ _ 108 (upd (mm_0.1 108) 0 0)]
              conv => whnf
              rw [H.1]
              conv => whnf
              refine ⟨rfl, ?_⟩
              conv => whnf
              refine ⟨fun _ => ?_, fun c => absurd (by decide) c⟩
              conv => whnf
              exact ⟨⟨.boolean, rfl, rfl⟩, rfl, rfl⟩
              all_goals rfl
          ·
            refine ⟨0, mm_0, (mm_i mm_0 108 (upd (mm_0.1 108) 0 0)), ?_, ?_, trivial⟩
            ·
              refine ⟨rfl, Nat.le_of_ble_eq_true rfl, Nat.le_of_ble_eq_true rfl, fun X hX => xm_run hX 100000 _ _ _ _ _ _ ?_⟩
              conv => whnf
              rw [H.1]
              conv => whnf
              refine ⟨rfl, ?_⟩
              conv => whnf
              refine ⟨xw_O (by rw [H.1]; rfl), xw1 0 0 (Nat.le_of_ble_eq_true rfl) (Nat.zero_le _) (Nat.zero_le _) (show xm_M xp ac lo xp_fty xp_dfl (xp_sv ad as (b, L, xs)) 999 nm_X10_doRule [.ref (lo + 39), .int p0, .int p1, .int p2] (hp mm_0 z) 0 0 (xq1 (.int 0) (hp mm_0 z)) from by
                  refine ⟨rfl, Nat.le_of_ble_eq_true rfl, Nat.le_of_ble_eq_true rfl, fun X hX => xm_run hX 100000 _ _ _ _ _ _ ?_⟩
                  conv => whnf
                  refine ⟨fun c => absurd c c0, fun _ => ?_⟩
                  conv => whnf
                  refine ⟨fun c => absurd c c1, fun _ => ?_⟩
                  conv => whnf
                  refine ⟨fun c => absurd c c2, fun _ => ?_⟩
                  conv => whnf
                  refine ⟨fun _ => ?_, fun c => absurd c3 c⟩
                  conv => whnf
                  refine ⟨xw_O (by rw [H.1]; rfl), xw1 0 0 (Nat.le_of_ble_eq_true rfl) (Nat.zero_le _) (Nat.zero_le _) (show xm_M xp ac lo xp_fty xp_dfl (xp_sv ad as (b, L, xs)) 998 nm_X10_pivot [.ref (lo + 39), .int p1, .int p2] (hp mm_0 z) 0 0 (xq1 (.int 0) (hp mm_0 z)) from by
                      refine ⟨rfl, Nat.le_of_ble_eq_true rfl, Nat.le_of_ble_eq_true rfl, fun X hX => xm_run hX 100000 _ _ _ _ _ _ ?_⟩
                      conv => whnf
                      refine ⟨xw_O (by rw [H.1]; rfl), xw1 0 0 (Nat.le_of_ble_eq_true rfl) (Nat.zero_le _) (Nat.zero_le _) (show xm_M xp ac lo xp_fty xp_dfl (xp_sv ad as (b, L, xs)) 997 nm_X10_isInner [.ref (lo + 39), .int p1] (hp mm_0 z) 0 0 (xq1 (.int 0) (hp mm_0 z)) from by
                          refine ⟨rfl, Nat.le_of_ble_eq_true rfl, Nat.le_of_ble_eq_true rfl, fun X hX => xm_run hX 100000 _ _ _ _ _ _ ?_⟩
                          conv => whnf
                          rw [H.1]
                          conv => whnf
                          refine ⟨rfl, ?_⟩
                          conv => whnf
                          refine ⟨fun c => absurd c c4, fun _ => ?_⟩
                          conv => whnf
                          refine ⟨xw_O (by rw [H.1]; rfl), xw1 0 0 (Nat.le_of_ble_eq_true rfl) (Nat.zero_le _) (Nat.zero_le _) (show xm_M xp ac lo xp_fty xp_dfl (xp_sv ad as (b, L, xs)) 996 nm_X10_isThere [.ref (lo + 39), .int p1] (hp mm_0 z) 0 0 (xq1 (.int 0) (hp mm_0 z)) from by
                              refine ⟨rfl, Nat.le_of_ble_eq_true rfl, Nat.le_of_ble_eq_true rfl, fun X hX => xm_run hX 100000 _ _ _ _ _ _ ?_⟩
                              conv => whnf
                              refine ⟨fun c => absurd c c4, fun _ => ?_⟩
                              conv => whnf
                              rw [H.1]
                              conv => whnf
                              refine ⟨rfl, ?_⟩
                              conv => whnf
                              refine ⟨fun _ => ?_, fun c => absurd (Int32.not_lt.mp c4) c⟩
                              conv => whnf
                              exact ⟨⟨.boolean, rfl, rfl⟩, rfl, rfl⟩
                              all_goals rfl
                              ) ?_⟩
                          conv => whnf
                          refine ⟨fun _ => ?_, fun c => absurd (by decide) c⟩
                          conv => whnf
                          exact ⟨⟨.boolean, rfl, rfl⟩, rfl, rfl⟩
                          all_goals rfl
                          ) ?_⟩
                      conv => whnf
                      refine ⟨fun _ => ?_, fun c => absurd (by decide) c⟩
                      conv => whnf
                      exact ⟨⟨.boolean, rfl, rfl⟩, rfl, rfl⟩
                      all_goals rfl
                      ) ?_⟩
                  conv => whnf
                  exact ⟨⟨.boolean, rfl, rfl⟩, rfl, rfl⟩
                  all_goals rfl
                  ) ?_⟩
              conv => whnf
              exact ⟨⟨.boolean, rfl, rfl⟩, rfl, rfl⟩
              all_goals rfl
            ·
              refine ⟨rfl, Nat.le_of_ble_eq_true rfl, Nat.le_of_ble_eq_true rfl, fun X hX => xm_run hX 100000 _ _ _ _ _ _ ?_⟩
              conv => whnf
              rw [H.1]
              conv => whnf
              refine ⟨rfl, Nat.le_add_right _ _, Nat.le_of_ble_eq_true rfl, ⟨rfl, rfl⟩, ?_⟩
              rw [H.2.2.1 _ _ 108 (upd (mm_0.1 108) 0 0)]
              conv => whnf
              rw [H.1]
              conv => whnf
              refine ⟨rfl, ?_⟩
              conv => whnf
              refine ⟨fun _ => ?_, fun c => absurd (by decide) c⟩
              conv => whnf
              exact ⟨⟨.boolean, rfl, rfl⟩, rfl, rfl⟩
              all_goals rfl
        ·
          refine ⟨0, mm_0, (mm_i mm_0 108 (upd (mm_0.1 108) 0 0)), ?_, ?_, trivial⟩
          ·
            refine ⟨rfl, Nat.le_of_ble_eq_true rfl, Nat.le_of_ble_eq_true rfl, fun X hX => xm_run hX 100000 _ _ _ _ _ _ ?_⟩
            conv => whnf
            rw [H.1]
            conv => whnf
            refine ⟨rfl, ?_⟩
            conv => whnf
            refine ⟨xw_O (by rw [H.1]; rfl), xw1 0 0 (Nat.le_of_ble_eq_true rfl) (Nat.zero_le _) (Nat.zero_le _) (show xm_M xp ac lo xp_fty xp_dfl (xp_sv ad as (b, L, xs)) 999 nm_X10_doRule [.ref (lo + 39), .int p0, .int p1, .int p2] (hp mm_0 z) 0 0 (xq1 (.int 0) (hp mm_0 z)) from by
                refine ⟨rfl, Nat.le_of_ble_eq_true rfl, Nat.le_of_ble_eq_true rfl, fun X hX => xm_run hX 100000 _ _ _ _ _ _ ?_⟩
                conv => whnf
                refine ⟨fun c => absurd c c0, fun _ => ?_⟩
                conv => whnf
                refine ⟨fun c => absurd c c1, fun _ => ?_⟩
                conv => whnf
                refine ⟨fun c => absurd c c2, fun _ => ?_⟩
                conv => whnf
                refine ⟨fun c => absurd c c3, fun _ => ?_⟩
                conv => whnf
                exact ⟨⟨.boolean, rfl, rfl⟩, rfl, rfl⟩
                all_goals rfl
                ) ?_⟩
            conv => whnf
            exact ⟨⟨.boolean, rfl, rfl⟩, rfl, rfl⟩
            all_goals rfl
          ·
            refine ⟨rfl, Nat.le_of_ble_eq_true rfl, Nat.le_of_ble_eq_true rfl, fun X hX => xm_run hX 100000 _ _ _ _ _ _ ?_⟩
            conv => whnf
            rw [H.1]
            conv => whnf
            refine ⟨rfl, Nat.le_add_right _ _, Nat.le_of_ble_eq_true rfl, ⟨rfl, rfl⟩, ?_⟩
            rw [H.2.2.1 _ _ 108 (upd (mm_0.1 108) 0 0)]
            conv => whnf
            rw [H.1]
            conv => whnf
            refine ⟨rfl, ?_⟩
            conv => whnf
            refine ⟨fun _ => ?_, fun c => absurd (by decide) c⟩
            conv => whnf
            exact ⟨⟨.boolean, rfl, rfl⟩, rfl, rfl⟩
            all_goals rfl
set_option maxRecDepth 100000 in
set_option maxHeartbeats 4000000 in
theorem pk_26 (H : mm_L ac lo hp) : la_I ac lo ad as b L xs hp (fun M => M = mm_0) (fun _ => True) nm_X11_reduce nm_X12_reduce [] := by
  intro M z hM
  have hM : M = mm_0 := hM
  subst hM
  refine ⟨(-1), mm_0, (mm_i mm_0 108 (upd (mm_0.1 108) 0 0)), ?_, ?_, trivial⟩
  ·
    refine ⟨rfl, Nat.le_of_ble_eq_true rfl, Nat.le_of_ble_eq_true rfl, fun X hX => xm_run hX 100000 _ _ _ _ _ _ ?_⟩
    conv => whnf
    rw [H.1]
    conv => whnf
    refine ⟨rfl, ?_⟩
    conv => whnf
    rw [H.1]
    conv => whnf
    refine ⟨rfl, ?_⟩
    conv => whnf
    refine ⟨fun c => absurd (by decide) c, fun _ => ?_⟩
    conv => whnf
    exact ⟨⟨.int, rfl, rfl⟩, rfl, rfl⟩
    all_goals rfl
  ·
    refine ⟨rfl, Nat.le_of_ble_eq_true rfl, Nat.le_of_ble_eq_true rfl, fun X hX => xm_run hX 100000 _ _ _ _ _ _ ?_⟩
    conv => whnf
    rw [H.1]
    conv => whnf
    refine ⟨rfl, Nat.le_add_right _ _, Nat.le_of_ble_eq_true rfl, ⟨rfl, rfl⟩, ?_⟩
    rw [H.2.2.1 _ _ 108 (upd (mm_0.1 108) 0 0)]
    conv => whnf
    rw [H.1]
    conv => whnf
    refine ⟨rfl, ?_⟩
    conv => whnf
    refine ⟨fun c => absurd (by decide) c, fun _ => ?_⟩
    conv => whnf
    exact ⟨⟨.int, rfl, rfl⟩, rfl, rfl⟩
    all_goals rfl
set_option maxRecDepth 100000 in
set_option maxHeartbeats 4000000 in
theorem pk_27 (H : mm_L ac lo hp) : ∀ (p0 : Int32) (p1 : Int32) (p2 : Int32), la_TJ ac lo ad as b L xs hp (fun M => M = mm_0) (fun _ => True) nm_L_meaning nm_X12_meaning [.int p0, .int p1, .int p2] := by
  intro p0 p1 p2
  intro M z hM
  have hM : M = mm_0 := hM
  subst hM
  refine ⟨1, 0, mm_0, (mm_i mm_0 108 (upd (mm_0.1 108) 0 1)), ?_, fun z => ?_, rfl, fun h => absurd h (by decide), trivial⟩
  ·
    refine ⟨rfl, Nat.le_of_ble_eq_true rfl, Nat.le_of_ble_eq_true rfl, fun X hX => xm_run hX 1000 _ _ _ _ _ _ ?_⟩
    conv => whnf
    refine ⟨xw_O (by rw [H.1]; rfl), xw_thr (hp := hp) (M := mm_0) "java/util/NoSuchElementException" (Nat.le_of_ble_eq_true rfl) (Nat.le_of_ble_eq_true rfl) (Nat.le_of_ble_eq_true rfl) (show xm_M xp ac lo xp_fty xp_dfl (xp_sv ad as (b, L, xs)) 999 nm_X11_meaning [.ref (lo + 0), .int p0, .int p1, .int p2] (hp mm_0 z) 1 6 (fun r h => r = .inr "java/util/NoSuchElementException" ∧ ∃ z, h = hp mm_0 z) from by
        refine ⟨rfl, Nat.le_of_ble_eq_true rfl, Nat.le_of_ble_eq_true rfl, fun X hX => xm_run hX 100000 _ _ _ _ _ _ ?_⟩
        conv => whnf
        rw [H.1]
        conv => whnf
        refine ⟨rfl, ?_⟩
        conv => whnf
        rw [H.1]
        conv => whnf
        refine ⟨rfl, ?_⟩
        conv => whnf
        refine ⟨Nat.le_of_ble_eq_true rfl, ?_⟩
        conv => whnf
        rw [H.1]
        conv => whnf
        refine ⟨rfl, ?_⟩
        conv => whnf
        rw [H.1]
        conv => whnf
        refine ⟨rfl, ?_⟩
        conv => whnf
        refine ⟨fun _ => ?_, fun c => absurd (by decide) c⟩
        conv => whnf
        exact ⟨rfl, by decide, Nat.le_of_ble_eq_true rfl, Nat.le_of_ble_eq_true rfl, Nat.le_of_ble_eq_true rfl, fun z9 _ => ⟨rfl, z9, H.2.2.2.2 _ _ _⟩⟩
        all_goals rfl
        ) (fun z => ?_)⟩
    refine xw_hd (hh := (0, 11, 14, 25, "java/util/NoSuchElementException") :: [(0, 11, 18, 13, "java/lang/IllegalStateException")]) rfl (by
      intro e he
      simp only [List.mem_cons, List.not_mem_nil, or_false] at he
      rcases he with rfl | rfl
      · exact Or.inl rfl
      · exact Or.inr (show ("java/util/NoSuchElementException", "java/lang/IllegalStateException") ∈ xp_pr by decide)
      ) (by decide +kernel : xm_hd 7 "java/util/NoSuchElementException" [(0, 11, 14, 25, "java/util/NoSuchElementException"), (0, 11, 18, 13, "java/lang/IllegalStateException")] = some 14) (fun q => ?_)
    conv => whnf
    refine ⟨Nat.le_of_ble_eq_true rfl, ?_⟩
    conv => whnf
    exact ⟨⟨.int, rfl, rfl⟩, rfl, _, rfl⟩
  ·
    refine ⟨rfl, Nat.le_of_ble_eq_true rfl, Nat.le_of_ble_eq_true rfl, fun X hX => xm_run hX 100000 _ _ _ _ _ _ ?_⟩
    conv => whnf
    rw [H.1]
    conv => whnf
    refine ⟨rfl, ?_⟩
    conv => whnf
    refine ⟨fun _ => ?_, fun c => absurd (by decide) c⟩
    conv => whnf
    refine ⟨Nat.le_of_ble_eq_true rfl, ?_⟩
    conv => whnf
    refine ⟨fun _ => ?_, fun c => absurd (by decide) c⟩
    conv => whnf
    rw [H.1]
    conv => whnf
    refine ⟨rfl, Nat.le_add_right _ _, Nat.le_of_ble_eq_true rfl, ⟨rfl, rfl⟩, ?_⟩
    rw [H.2.2.1 _ _ 108 (upd (mm_0.1 108) 0 1)]
    conv => whnf
    refine ⟨fun c => absurd (by decide) c, fun _ => ?_⟩
    conv => whnf
    exact ⟨rfl, rfl, rfl⟩
    all_goals rfl
set_option maxRecDepth 100000 in
set_option maxHeartbeats 4000000 in
theorem pk_28 (H : mm_L ac lo hp) : la_TI ac lo ad as b L xs hp (fun M => M = mm_0) (fun _ => True) nm_L_code nm_X12_code [] := by
  intro M z hM
  have hM : M = mm_0 := hM
  subst hM
  refine ⟨1, 0, (mm_i (mm_i (mm_i (mm_i (mm_i (mm_i (mm_i (mm_i (mm_i (mm_i mm_0 0 (upd (mm_0.1 0) 14 0)) 46 (upd (mm_0.1 46) 15 0)) 46 (upd (upd (mm_0.1 46) 15 0) 16 0)) 46 (upd (upd (upd (mm_0.1 46) 15 0) 16 0) 12 0)) 46 (upd (upd (upd (upd (mm_0.1 46) 15 0) 16 0) 12 0) 13 0)) 46 (upd (upd (upd (upd (upd (mm_0.1 46) 15 0) 16 0) 12 0) 13 0) 14 0)) 46 (upd (upd (upd (upd (upd (upd (mm_0.1 46) 15 0) 16 0) 12 0) 13 0) 14 0) 15 1)) 46 (upd (upd (upd (upd (upd (upd (upd (mm_0.1 46) 15 0) 16 0) 12 0) 13 0) 14 0) 15 1) 16 0)) 0 (upd (upd (mm_0.1 0) 14 0) 15 1)) 0 (upd (upd (upd (mm_0.1 0) 14 0) 15 1) 16 0)), (mm_i (mm_i (mm_i (mm_i (mm_i (mm_i (mm_i (mm_i (mm_i (mm_i (mm_i (mm_i (mm_i (mm_i (mm_i (mm_i (mm_i (mm_i (mm_i (mm_i (mm_i mm_0 0 (upd (mm_0.1 0) 14 0)) 46 (upd (mm_0.1 46) 15 0)) 46 (upd (upd (mm_0.1 46) 15 0) 16 0)) 46 (upd (upd (upd (mm_0.1 46) 15 0) 16 0) 12 0)) 46 (upd (upd (upd (upd (mm_0.1 46) 15 0) 16 0) 12 0) 13 0)) 46 (upd (upd (upd (upd (upd (mm_0.1 46) 15 0) 16 0) 12 0) 13 0) 14 0)) 46 (upd (upd (upd (upd (upd (upd (mm_0.1 46) 15 0) 16 0) 12 0) 13 0) 14 0) 15 1)) 46 (upd (upd (upd (upd (upd (upd (upd (mm_0.1 46) 15 0) 16 0) 12 0) 13 0) 14 0) 15 1) 16 0)) 0 (upd (upd (mm_0.1 0) 14 0) 15 1)) 0 (upd (upd (upd (mm_0.1 0) 14 0) 15 1) 16 0)) 108 (upd (mm_0.1 108) 4 0)) 108 (upd (upd (mm_0.1 108) 4 0) 5 0)) 108 (upd (upd (upd (mm_0.1 108) 4 0) 5 0) 3 0)) 108 (upd (upd (upd (upd (mm_0.1 108) 4 0) 5 0) 3 0) 115 0)) 178 (upd (mm_0.1 178) (0 : Int32).toNatClampNeg 0)) 179 (upd (mm_0.1 179) (0 : Int32).toNatClampNeg 0)) 108 (upd (upd (upd (upd (upd (mm_0.1 108) 4 0) 5 0) 3 0) 115 0) 114 0)) 108 (upd (upd (upd (upd (upd (upd (mm_0.1 108) 4 0) 5 0) 3 0) 115 0) 114 0) 4 1)) 108 (upd (upd (upd (upd (upd (upd (upd (mm_0.1 108) 4 0) 5 0) 3 0) 115 0) 114 0) 4 1) 5 0)) 108 (upd (upd (upd (upd (upd (upd (upd (upd (mm_0.1 108) 4 0) 5 0) 3 0) 115 0) 114 0) 4 1) 5 0) 2 0)) 108 (upd (upd (upd (upd (upd (upd (upd (upd (upd (mm_0.1 108) 4 0) 5 0) 3 0) 115 0) 114 0) 4 1) 5 0) 2 0) 0 1)), ?_, fun z => ?_, rfl, fun h => absurd h (by decide), trivial⟩
  ·
    refine ⟨rfl, Nat.le_of_ble_eq_true rfl, Nat.le_of_ble_eq_true rfl, fun X hX => xm_run hX 1000 _ _ _ _ _ _ ?_⟩
    conv => whnf
    refine ⟨xw_O (by rw [H.1]; rfl), xw_thr (hp := hp) (M := (mm_i (mm_i (mm_i (mm_i (mm_i (mm_i (mm_i (mm_i (mm_i (mm_i mm_0 0 (upd (mm_0.1 0) 14 0)) 46 (upd (mm_0.1 46) 15 0)) 46 (upd (upd (mm_0.1 46) 15 0) 16 0)) 46 (upd (upd (upd (mm_0.1 46) 15 0) 16 0) 12 0)) 46 (upd (upd (upd (upd (mm_0.1 46) 15 0) 16 0) 12 0) 13 0)) 46 (upd (upd (upd (upd (upd (mm_0.1 46) 15 0) 16 0) 12 0) 13 0) 14 0)) 46 (upd (upd (upd (upd (upd (upd (mm_0.1 46) 15 0) 16 0) 12 0) 13 0) 14 0) 15 1)) 46 (upd (upd (upd (upd (upd (upd (upd (mm_0.1 46) 15 0) 16 0) 12 0) 13 0) 14 0) 15 1) 16 0)) 0 (upd (upd (mm_0.1 0) 14 0) 15 1)) 0 (upd (upd (upd (mm_0.1 0) 14 0) 15 1) 16 0))) "java/lang/IllegalArgumentException" (Nat.le_of_ble_eq_true rfl) (Nat.le_of_ble_eq_true rfl) (Nat.le_of_ble_eq_true rfl) (show xm_M xp ac lo xp_fty xp_dfl (xp_sv ad as (b, L, xs)) 999 nm_X11_code [.ref (lo + 0)] (hp mm_0 z) 1 6 (fun r h => r = .inr "java/lang/IllegalArgumentException" ∧ ∃ z, h = hp (mm_i (mm_i (mm_i (mm_i (mm_i (mm_i (mm_i (mm_i (mm_i (mm_i mm_0 0 (upd (mm_0.1 0) 14 0)) 46 (upd (mm_0.1 46) 15 0)) 46 (upd (upd (mm_0.1 46) 15 0) 16 0)) 46 (upd (upd (upd (mm_0.1 46) 15 0) 16 0) 12 0)) 46 (upd (upd (upd (upd (mm_0.1 46) 15 0) 16 0) 12 0) 13 0)) 46 (upd (upd (upd (upd (upd (mm_0.1 46) 15 0) 16 0) 12 0) 13 0) 14 0)) 46 (upd (upd (upd (upd (upd (upd (mm_0.1 46) 15 0) 16 0) 12 0) 13 0) 14 0) 15 1)) 46 (upd (upd (upd (upd (upd (upd (upd (mm_0.1 46) 15 0) 16 0) 12 0) 13 0) 14 0) 15 1) 16 0)) 0 (upd (upd (mm_0.1 0) 14 0) 15 1)) 0 (upd (upd (upd (mm_0.1 0) 14 0) 15 1) 16 0)) z) from by
        refine ⟨rfl, Nat.le_of_ble_eq_true rfl, Nat.le_of_ble_eq_true rfl, fun X hX => xm_run hX 100000 _ _ _ _ _ _ ?_⟩
        conv => whnf
        rw [H.1]
        conv => whnf
        refine ⟨rfl, ?_⟩
        conv => whnf
        refine ⟨Nat.le_of_ble_eq_true rfl, ?_⟩
        conv => whnf
        rw [H.1]
        conv => whnf
        refine ⟨rfl, Nat.le_add_right _ _, Nat.le_of_ble_eq_true rfl, ⟨rfl, rfl⟩, ?_⟩
        rw [H.2.2.1 _ _ 0 (upd (mm_0.1 0) 14 0)]
        conv => whnf
        rw [H.1]
        conv => whnf
        refine ⟨rfl, ?_⟩
        conv => whnf
        rw [H.1]
        conv => whnf
        refine ⟨rfl, ?_⟩
        conv => whnf
        refine ⟨xw_O (by rw [H.1]; rfl), xw0 0 0 (Nat.le_of_ble_eq_true rfl) (Nat.zero_le _) (Nat.zero_le _) (show xm_M xp ac lo xp_fty xp_dfl (xp_sv ad as (b, L, xs)) 998 nm_X3_read [.ref (lo + 46), .ref (lo + 1), .int 0] (hp (mm_i mm_0 0 (upd (mm_0.1 0) 14 0)) z) 0 0 (xq0 (hp (mm_i (mm_i (mm_i (mm_i (mm_i (mm_i (mm_i (mm_i mm_0 0 (upd (mm_0.1 0) 14 0)) 46 (upd (mm_0.1 46) 15 0)) 46 (upd (upd (mm_0.1 46) 15 0) 16 0)) 46 (upd (upd (upd (mm_0.1 46) 15 0) 16 0) 12 0)) 46 (upd (upd (upd (upd (mm_0.1 46) 15 0) 16 0) 12 0) 13 0)) 46 (upd (upd (upd (upd (upd (mm_0.1 46) 15 0) 16 0) 12 0) 13 0) 14 0)) 46 (upd (upd (upd (upd (upd (upd (mm_0.1 46) 15 0) 16 0) 12 0) 13 0) 14 0) 15 1)) 46 (upd (upd (upd (upd (upd (upd (upd (mm_0.1 46) 15 0) 16 0) 12 0) 13 0) 14 0) 15 1) 16 0)) z)) from by
            refine ⟨rfl, Nat.le_of_ble_eq_true rfl, Nat.le_of_ble_eq_true rfl, fun X hX => xm_run hX 100000 _ _ _ _ _ _ ?_⟩
            conv => whnf
            rw [H.1]
            conv => whnf
            refine ⟨rfl, Nat.le_add_right _ _, Nat.le_of_ble_eq_true rfl, ⟨rfl, rfl⟩, ?_⟩
            rw [H.2.2.1 _ _ 46 (upd (mm_0.1 46) 15 0)]
            conv => whnf
            rw [H.1]
            conv => whnf
            refine ⟨rfl, Nat.le_add_right _ _, Nat.le_of_ble_eq_true rfl, ⟨rfl, rfl⟩, ?_⟩
            rw [H.2.2.1 _ _ 46 (upd (upd (mm_0.1 46) 15 0) 16 0)]
            conv => whnf
            rw [H.1]
            conv => whnf
            refine ⟨rfl, Nat.le_add_right _ _, Nat.le_of_ble_eq_true rfl, ⟨rfl, rfl⟩, ?_⟩
            rw [H.2.2.1 _ _ 46 (upd (upd (upd (mm_0.1 46) 15 0) 16 0) 12 0)]
            conv => whnf
            rw [H.1]
            conv => whnf
            refine ⟨rfl, Nat.le_add_right _ _, Nat.le_of_ble_eq_true rfl, ⟨rfl, rfl⟩, ?_⟩
            rw [H.2.2.1 _ _ 46 (upd (upd (upd (upd (mm_0.1 46) 15 0) 16 0) 12 0) 13 0)]
            conv => whnf
            rw [H.1]
            conv => whnf
            refine ⟨rfl, Nat.le_add_right _ _, Nat.le_of_ble_eq_true rfl, ⟨rfl, rfl⟩, ?_⟩
            rw [H.2.2.1 _ _ 46 (upd (upd (upd (upd (upd (mm_0.1 46) 15 0) 16 0) 12 0) 13 0) 14 0)]
            conv => whnf
            refine ⟨Nat.le_of_ble_eq_true rfl, ?_⟩
            conv => whnf
            refine ⟨fun _ => ?_, fun c => absurd (by decide) c⟩
            conv => whnf
            rw [H.1]
            conv => whnf
            refine ⟨rfl, ?_⟩
            conv => whnf
            refine ⟨fun c => absurd (by decide) c, fun _ => ?_⟩
            conv => whnf
            refine ⟨xw_O (by rw [H.1]; rfl), xw1 0 0 (Nat.le_of_ble_eq_true rfl) (Nat.zero_le _) (Nat.zero_le _) (show xm_M xp ac lo xp_fty xp_dfl (xp_sv ad as (b, L, xs)) 997 nm_X3_rowIsFull [.ref (lo + 46)] (hp (mm_i (mm_i (mm_i (mm_i (mm_i (mm_i mm_0 0 (upd (mm_0.1 0) 14 0)) 46 (upd (mm_0.1 46) 15 0)) 46 (upd (upd (mm_0.1 46) 15 0) 16 0)) 46 (upd (upd (upd (mm_0.1 46) 15 0) 16 0) 12 0)) 46 (upd (upd (upd (upd (mm_0.1 46) 15 0) 16 0) 12 0) 13 0)) 46 (upd (upd (upd (upd (upd (mm_0.1 46) 15 0) 16 0) 12 0) 13 0) 14 0)) z) 0 0 (xq1 (.int 0) (hp (mm_i (mm_i (mm_i (mm_i (mm_i (mm_i mm_0 0 (upd (mm_0.1 0) 14 0)) 46 (upd (mm_0.1 46) 15 0)) 46 (upd (upd (mm_0.1 46) 15 0) 16 0)) 46 (upd (upd (upd (mm_0.1 46) 15 0) 16 0) 12 0)) 46 (upd (upd (upd (upd (mm_0.1 46) 15 0) 16 0) 12 0) 13 0)) 46 (upd (upd (upd (upd (upd (mm_0.1 46) 15 0) 16 0) 12 0) 13 0) 14 0)) z)) from by
                refine ⟨rfl, Nat.le_of_ble_eq_true rfl, Nat.le_of_ble_eq_true rfl, fun X hX => xm_run hX 100000 _ _ _ _ _ _ ?_⟩
                conv => whnf
                rw [H.1]
                conv => whnf
                refine ⟨rfl, ?_⟩
                conv => whnf
                refine ⟨fun c => absurd (by decide) c, fun _ => ?_⟩
                conv => whnf
                rw [H.1]
                conv => whnf
                refine ⟨rfl, ?_⟩
                conv => whnf
                refine ⟨fun _ => ?_, fun c => absurd (by decide) c⟩
                conv => whnf
                exact ⟨⟨.boolean, rfl, rfl⟩, rfl, rfl⟩
                all_goals rfl
                ) ?_⟩
            conv => whnf
            refine ⟨fun c => absurd (by decide) c, fun _ => ?_⟩
            conv => whnf
            refine ⟨xw_O (by rw [H.1]; rfl), xw0 0 0 (Nat.le_of_ble_eq_true rfl) (Nat.zero_le _) (Nat.zero_le _) (show xm_M xp ac lo xp_fty xp_dfl (xp_sv ad as (b, L, xs)) 997 nm_X3_tellFault [.ref (lo + 46), .int 1, .int 0] (hp (mm_i (mm_i (mm_i (mm_i (mm_i (mm_i mm_0 0 (upd (mm_0.1 0) 14 0)) 46 (upd (mm_0.1 46) 15 0)) 46 (upd (upd (mm_0.1 46) 15 0) 16 0)) 46 (upd (upd (upd (mm_0.1 46) 15 0) 16 0) 12 0)) 46 (upd (upd (upd (upd (mm_0.1 46) 15 0) 16 0) 12 0) 13 0)) 46 (upd (upd (upd (upd (upd (mm_0.1 46) 15 0) 16 0) 12 0) 13 0) 14 0)) z) 0 0 (xq0 (hp (mm_i (mm_i (mm_i (mm_i (mm_i (mm_i (mm_i (mm_i mm_0 0 (upd (mm_0.1 0) 14 0)) 46 (upd (mm_0.1 46) 15 0)) 46 (upd (upd (mm_0.1 46) 15 0) 16 0)) 46 (upd (upd (upd (mm_0.1 46) 15 0) 16 0) 12 0)) 46 (upd (upd (upd (upd (mm_0.1 46) 15 0) 16 0) 12 0) 13 0)) 46 (upd (upd (upd (upd (upd (mm_0.1 46) 15 0) 16 0) 12 0) 13 0) 14 0)) 46 (upd (upd (upd (upd (upd (upd (mm_0.1 46) 15 0) 16 0) 12 0) 13 0) 14 0) 15 1)) 46 (upd (upd (upd (upd (upd (upd (upd (mm_0.1 46) 15 0) 16 0) 12 0) 13 0) 14 0) 15 1) 16 0)) z)) from by
                refine ⟨rfl, Nat.le_of_ble_eq_true rfl, Nat.le_of_ble_eq_true rfl, fun X hX => xm_run hX 100000 _ _ _ _ _ _ ?_⟩
                conv => whnf
                rw [H.1]
                conv => whnf
                refine ⟨rfl, Nat.le_add_right _ _, Nat.le_of_ble_eq_true rfl, ⟨rfl, rfl⟩, ?_⟩
                rw [H.2.2.1 _ _ 46 (upd (upd (upd (upd (upd (upd (mm_0.1 46) 15 0) 16 0) 12 0) 13 0) 14 0) 15 1)]
                conv => whnf
                rw [H.1]
                conv => whnf
                refine ⟨rfl, Nat.le_add_right _ _, Nat.le_of_ble_eq_true rfl, ⟨rfl, rfl⟩, ?_⟩
                rw [H.2.2.1 _ _ 46 (upd (upd (upd (upd (upd (upd (upd (mm_0.1 46) 15 0) 16 0) 12 0) 13 0) 14 0) 15 1) 16 0)]
                conv => whnf
                exact ⟨rfl, rfl, rfl⟩
                all_goals rfl
                ) ?_⟩
            conv => whnf
            rw [H.1]
            conv => whnf
            refine ⟨rfl, ?_⟩
            conv => whnf
            refine ⟨fun _ => ?_, fun c => absurd (by decide) c⟩
            conv => whnf
            rw [H.1]
            conv => whnf
            refine ⟨rfl, ?_⟩
            conv => whnf
            refine ⟨fun _ => ?_, fun c => absurd (by decide) c⟩
            conv => whnf
            exact ⟨rfl, rfl, rfl⟩
            all_goals rfl
            ) ?_⟩
        conv => whnf
        rw [H.1]
        conv => whnf
        refine ⟨rfl, ?_⟩
        conv => whnf
        rw [H.1]
        conv => whnf
        refine ⟨rfl, ?_⟩
        conv => whnf
        rw [H.1]
        conv => whnf
        refine ⟨rfl, Nat.le_add_right _ _, Nat.le_of_ble_eq_true rfl, ⟨rfl, rfl⟩, ?_⟩
        rw [H.2.2.1 _ _ 0 (upd (upd (mm_0.1 0) 14 0) 15 1)]
        conv => whnf
        rw [H.1]
        conv => whnf
        refine ⟨rfl, ?_⟩
        conv => whnf
        rw [H.1]
        conv => whnf
        refine ⟨rfl, ?_⟩
        conv => whnf
        rw [H.1]
        conv => whnf
        refine ⟨rfl, Nat.le_add_right _ _, Nat.le_of_ble_eq_true rfl, ⟨rfl, rfl⟩, ?_⟩
        rw [H.2.2.1 _ _ 0 (upd (upd (upd (mm_0.1 0) 14 0) 15 1) 16 0)]
        conv => whnf
        rw [H.1]
        conv => whnf
        refine ⟨rfl, ?_⟩
        conv => whnf
        refine ⟨fun c => absurd c (by decide), fun _ => ?_⟩
        conv => whnf
        exact ⟨rfl, by decide, Nat.le_of_ble_eq_true rfl, Nat.le_of_ble_eq_true rfl, Nat.le_of_ble_eq_true rfl, fun z9 _ => ⟨rfl, z9, H.2.2.2.2 _ _ _⟩⟩
        all_goals rfl
        ) (fun z => ?_)⟩
    refine xw_hd (hh := (0, 8, 11, 15, "java/lang/IllegalArgumentException") :: []) rfl (by
      intro e he
      simp only [List.mem_cons, List.not_mem_nil, or_false] at he
      subst he
      exact Or.inl rfl
      ) (by decide +kernel : xm_hd 3 "java/lang/IllegalArgumentException" [(0, 8, 11, 15, "java/lang/IllegalArgumentException")] = some 11) (fun q => ?_)
    conv => whnf
    refine ⟨Nat.le_of_ble_eq_true rfl, ?_⟩
    conv => whnf
    exact ⟨⟨.int, rfl, rfl⟩, rfl, _, rfl⟩
  ·
    refine ⟨rfl, Nat.le_of_ble_eq_true rfl, Nat.le_of_ble_eq_true rfl, fun X hX => xm_run hX 100000 _ _ _ _ _ _ ?_⟩
    conv => whnf
    rw [H.1]
    conv => whnf
    refine ⟨rfl, Nat.le_add_right _ _, Nat.le_of_ble_eq_true rfl, ⟨rfl, rfl⟩, ?_⟩
    rw [H.2.2.1 _ _ 108 (upd (mm_0.1 108) 4 0)]
    conv => whnf
    rw [H.1]
    conv => whnf
    refine ⟨rfl, Nat.le_add_right _ _, Nat.le_of_ble_eq_true rfl, ⟨rfl, rfl⟩, ?_⟩
    rw [H.2.2.1 _ _ 108 (upd (upd (mm_0.1 108) 4 0) 5 0)]
    conv => whnf
    rw [H.1]
    conv => whnf
    refine ⟨rfl, Nat.le_add_right _ _, Nat.le_of_ble_eq_true rfl, ⟨rfl, rfl⟩, ?_⟩
    rw [H.2.2.1 _ _ 108 (upd (upd (upd (mm_0.1 108) 4 0) 5 0) 3 0)]
    conv => whnf
    refine ⟨xw_O (by rw [H.1]; rfl), xw1 0 0 (Nat.le_of_ble_eq_true rfl) (Nat.zero_le _) (Nat.zero_le _) (show xm_M xp ac lo xp_fty xp_dfl (xp_sv ad as (b, L, xs)) 999 nm_X12_readCode [.ref (lo + 108)] (hp (mm_i (mm_i (mm_i (mm_i (mm_i (mm_i (mm_i (mm_i (mm_i (mm_i (mm_i (mm_i (mm_i mm_0 0 (upd (mm_0.1 0) 14 0)) 46 (upd (mm_0.1 46) 15 0)) 46 (upd (upd (mm_0.1 46) 15 0) 16 0)) 46 (upd (upd (upd (mm_0.1 46) 15 0) 16 0) 12 0)) 46 (upd (upd (upd (upd (mm_0.1 46) 15 0) 16 0) 12 0) 13 0)) 46 (upd (upd (upd (upd (upd (mm_0.1 46) 15 0) 16 0) 12 0) 13 0) 14 0)) 46 (upd (upd (upd (upd (upd (upd (mm_0.1 46) 15 0) 16 0) 12 0) 13 0) 14 0) 15 1)) 46 (upd (upd (upd (upd (upd (upd (upd (mm_0.1 46) 15 0) 16 0) 12 0) 13 0) 14 0) 15 1) 16 0)) 0 (upd (upd (mm_0.1 0) 14 0) 15 1)) 0 (upd (upd (upd (mm_0.1 0) 14 0) 15 1) 16 0)) 108 (upd (mm_0.1 108) 4 0)) 108 (upd (upd (mm_0.1 108) 4 0) 5 0)) 108 (upd (upd (upd (mm_0.1 108) 4 0) 5 0) 3 0)) z) 0 0 (xq1 (.int 0) (hp (mm_i (mm_i (mm_i (mm_i (mm_i (mm_i (mm_i (mm_i (mm_i (mm_i (mm_i (mm_i (mm_i (mm_i (mm_i (mm_i (mm_i (mm_i (mm_i mm_0 0 (upd (mm_0.1 0) 14 0)) 46 (upd (mm_0.1 46) 15 0)) 46 (upd (upd (mm_0.1 46) 15 0) 16 0)) 46 (upd (upd (upd (mm_0.1 46) 15 0) 16 0) 12 0)) 46 (upd (upd (upd (upd (mm_0.1 46) 15 0) 16 0) 12 0) 13 0)) 46 (upd (upd (upd (upd (upd (mm_0.1 46) 15 0) 16 0) 12 0) 13 0) 14 0)) 46 (upd (upd (upd (upd (upd (upd (mm_0.1 46) 15 0) 16 0) 12 0) 13 0) 14 0) 15 1)) 46 (upd (upd (upd (upd (upd (upd (upd (mm_0.1 46) 15 0) 16 0) 12 0) 13 0) 14 0) 15 1) 16 0)) 0 (upd (upd (mm_0.1 0) 14 0) 15 1)) 0 (upd (upd (upd (mm_0.1 0) 14 0) 15 1) 16 0)) 108 (upd (mm_0.1 108) 4 0)) 108 (upd (upd (mm_0.1 108) 4 0) 5 0)) 108 (upd (upd (upd (mm_0.1 108) 4 0) 5 0) 3 0)) 108 (upd (upd (upd (upd (mm_0.1 108) 4 0) 5 0) 3 0) 115 0)) 178 (upd (mm_0.1 178) (0 : Int32).toNatClampNeg 0)) 179 (upd (mm_0.1 179) (0 : Int32).toNatClampNeg 0)) 108 (upd (upd (upd (upd (upd (mm_0.1 108) 4 0) 5 0) 3 0) 115 0) 114 0)) 108 (upd (upd (upd (upd (upd (upd (mm_0.1 108) 4 0) 5 0) 3 0) 115 0) 114 0) 4 1)) 108 (upd (upd (upd (upd (upd (upd (upd (mm_0.1 108) 4 0) 5 0) 3 0) 115 0) 114 0) 4 1) 5 0)) z)) from by
        refine ⟨rfl, Nat.le_of_ble_eq_true rfl, Nat.le_of_ble_eq_true rfl, fun X hX => xm_run hX 100000 _ _ _ _ _ _ ?_⟩
        conv => whnf
        rw [H.1]
        conv => whnf
        refine ⟨rfl, Nat.le_add_right _ _, Nat.le_of_ble_eq_true rfl, ⟨rfl, rfl⟩, ?_⟩
        rw [H.2.2.1 _ _ 108 (upd (upd (upd (upd (mm_0.1 108) 4 0) 5 0) 3 0) 115 0)]
        conv => whnf
        refine ⟨Nat.le_of_ble_eq_true rfl, ?_⟩
        conv => whnf
        refine ⟨fun c => absurd c (by decide), fun _ => ?_⟩
        conv => whnf
        rw [H.1]
        conv => whnf
        refine ⟨rfl, ?_⟩
        conv => whnf
        refine ⟨xw_O (by rw [H.1]; rfl), xw1 0 0 (Nat.le_of_ble_eq_true rfl) (Nat.zero_le _) (Nat.zero_le _) (show xm_M xp ac lo xp_fty xp_dfl (xp_sv ad as (b, L, xs)) 998 nm_X12_readRow [.ref (lo + 108), .int 0] (hp (mm_i (mm_i (mm_i (mm_i (mm_i (mm_i (mm_i (mm_i (mm_i (mm_i (mm_i (mm_i (mm_i (mm_i mm_0 0 (upd (mm_0.1 0) 14 0)) 46 (upd (mm_0.1 46) 15 0)) 46 (upd (upd (mm_0.1 46) 15 0) 16 0)) 46 (upd (upd (upd (mm_0.1 46) 15 0) 16 0) 12 0)) 46 (upd (upd (upd (upd (mm_0.1 46) 15 0) 16 0) 12 0) 13 0)) 46 (upd (upd (upd (upd (upd (mm_0.1 46) 15 0) 16 0) 12 0) 13 0) 14 0)) 46 (upd (upd (upd (upd (upd (upd (mm_0.1 46) 15 0) 16 0) 12 0) 13 0) 14 0) 15 1)) 46 (upd (upd (upd (upd (upd (upd (upd (mm_0.1 46) 15 0) 16 0) 12 0) 13 0) 14 0) 15 1) 16 0)) 0 (upd (upd (mm_0.1 0) 14 0) 15 1)) 0 (upd (upd (upd (mm_0.1 0) 14 0) 15 1) 16 0)) 108 (upd (mm_0.1 108) 4 0)) 108 (upd (upd (mm_0.1 108) 4 0) 5 0)) 108 (upd (upd (upd (mm_0.1 108) 4 0) 5 0) 3 0)) 108 (upd (upd (upd (upd (mm_0.1 108) 4 0) 5 0) 3 0) 115 0)) z) 0 0 (xq1 (.int 0) (hp (mm_i (mm_i (mm_i (mm_i (mm_i (mm_i (mm_i (mm_i (mm_i (mm_i (mm_i (mm_i (mm_i (mm_i (mm_i (mm_i (mm_i (mm_i (mm_i mm_0 0 (upd (mm_0.1 0) 14 0)) 46 (upd (mm_0.1 46) 15 0)) 46 (upd (upd (mm_0.1 46) 15 0) 16 0)) 46 (upd (upd (upd (mm_0.1 46) 15 0) 16 0) 12 0)) 46 (upd (upd (upd (upd (mm_0.1 46) 15 0) 16 0) 12 0) 13 0)) 46 (upd (upd (upd (upd (upd (mm_0.1 46) 15 0) 16 0) 12 0) 13 0) 14 0)) 46 (upd (upd (upd (upd (upd (upd (mm_0.1 46) 15 0) 16 0) 12 0) 13 0) 14 0) 15 1)) 46 (upd (upd (upd (upd (upd (upd (upd (mm_0.1 46) 15 0) 16 0) 12 0) 13 0) 14 0) 15 1) 16 0)) 0 (upd (upd (mm_0.1 0) 14 0) 15 1)) 0 (upd (upd (upd (mm_0.1 0) 14 0) 15 1) 16 0)) 108 (upd (mm_0.1 108) 4 0)) 108 (upd (upd (mm_0.1 108) 4 0) 5 0)) 108 (upd (upd (upd (mm_0.1 108) 4 0) 5 0) 3 0)) 108 (upd (upd (upd (upd (mm_0.1 108) 4 0) 5 0) 3 0) 115 0)) 178 (upd (mm_0.1 178) (0 : Int32).toNatClampNeg 0)) 179 (upd (mm_0.1 179) (0 : Int32).toNatClampNeg 0)) 108 (upd (upd (upd (upd (upd (mm_0.1 108) 4 0) 5 0) 3 0) 115 0) 114 0)) 108 (upd (upd (upd (upd (upd (upd (mm_0.1 108) 4 0) 5 0) 3 0) 115 0) 114 0) 4 1)) 108 (upd (upd (upd (upd (upd (upd (upd (mm_0.1 108) 4 0) 5 0) 3 0) 115 0) 114 0) 4 1) 5 0)) z)) from by
            refine ⟨rfl, Nat.le_of_ble_eq_true rfl, Nat.le_of_ble_eq_true rfl, fun X hX => xm_run hX 100000 _ _ _ _ _ _ ?_⟩
            conv => whnf
            rw [H.1]
            conv => whnf
            refine ⟨rfl, ?_⟩
            conv => whnf
            rw [H.1]
            conv => whnf
            refine ⟨rfl, (by unfold vp_in; decide), Nat.le_add_right _ _, ?_⟩
            rw [H.2.2.1 _ _ 178 (upd (mm_0.1 178) (0 : Int32).toNatClampNeg 0)]
            conv => whnf
            rw [H.1]
            conv => whnf
            refine ⟨rfl, ?_⟩
            conv => whnf
            rw [H.1]
            conv => whnf
            refine ⟨rfl, (by unfold vp_in; decide), Nat.le_add_right _ _, ?_⟩
            rw [H.2.2.1 _ _ 179 (upd (mm_0.1 179) (0 : Int32).toNatClampNeg 0)]
            conv => whnf
            refine ⟨Nat.le_of_ble_eq_true rfl, ?_⟩
            conv => whnf
            refine ⟨Nat.le_of_ble_eq_true rfl, ?_⟩
            conv => whnf
            refine ⟨fun c => absurd c (by decide), fun _ => ?_⟩
            conv => whnf
            refine ⟨xw_O (by rw [H.1]; rfl), xw1 0 0 (Nat.le_of_ble_eq_true rfl) (Nat.zero_le _) (Nat.zero_le _) (show xm_M xp ac lo xp_fty xp_dfl (xp_sv ad as (b, L, xs)) 997 nm_X12_see [.ref (lo + 108)] (hp (mm_i (mm_i (mm_i (mm_i (mm_i (mm_i (mm_i (mm_i (mm_i (mm_i (mm_i (mm_i (mm_i (mm_i (mm_i (mm_i mm_0 0 (upd (mm_0.1 0) 14 0)) 46 (upd (mm_0.1 46) 15 0)) 46 (upd (upd (mm_0.1 46) 15 0) 16 0)) 46 (upd (upd (upd (mm_0.1 46) 15 0) 16 0) 12 0)) 46 (upd (upd (upd (upd (mm_0.1 46) 15 0) 16 0) 12 0) 13 0)) 46 (upd (upd (upd (upd (upd (mm_0.1 46) 15 0) 16 0) 12 0) 13 0) 14 0)) 46 (upd (upd (upd (upd (upd (upd (mm_0.1 46) 15 0) 16 0) 12 0) 13 0) 14 0) 15 1)) 46 (upd (upd (upd (upd (upd (upd (upd (mm_0.1 46) 15 0) 16 0) 12 0) 13 0) 14 0) 15 1) 16 0)) 0 (upd (upd (mm_0.1 0) 14 0) 15 1)) 0 (upd (upd (upd (mm_0.1 0) 14 0) 15 1) 16 0)) 108 (upd (mm_0.1 108) 4 0)) 108 (upd (upd (mm_0.1 108) 4 0) 5 0)) 108 (upd (upd (upd (mm_0.1 108) 4 0) 5 0) 3 0)) 108 (upd (upd (upd (upd (mm_0.1 108) 4 0) 5 0) 3 0) 115 0)) 178 (upd (mm_0.1 178) (0 : Int32).toNatClampNeg 0)) 179 (upd (mm_0.1 179) (0 : Int32).toNatClampNeg 0)) z) 0 0 (xq1 (.int 0) (hp (mm_i (mm_i (mm_i (mm_i (mm_i (mm_i (mm_i (mm_i (mm_i (mm_i (mm_i (mm_i (mm_i (mm_i (mm_i (mm_i mm_0 0 (upd (mm_0.1 0) 14 0)) 46 (upd (mm_0.1 46) 15 0)) 46 (upd (upd (mm_0.1 46) 15 0) 16 0)) 46 (upd (upd (upd (mm_0.1 46) 15 0) 16 0) 12 0)) 46 (upd (upd (upd (upd (mm_0.1 46) 15 0) 16 0) 12 0) 13 0)) 46 (upd (upd (upd (upd (upd (mm_0.1 46) 15 0) 16 0) 12 0) 13 0) 14 0)) 46 (upd (upd (upd (upd (upd (upd (mm_0.1 46) 15 0) 16 0) 12 0) 13 0) 14 0) 15 1)) 46 (upd (upd (upd (upd (upd (upd (upd (mm_0.1 46) 15 0) 16 0) 12 0) 13 0) 14 0) 15 1) 16 0)) 0 (upd (upd (mm_0.1 0) 14 0) 15 1)) 0 (upd (upd (upd (mm_0.1 0) 14 0) 15 1) 16 0)) 108 (upd (mm_0.1 108) 4 0)) 108 (upd (upd (mm_0.1 108) 4 0) 5 0)) 108 (upd (upd (upd (mm_0.1 108) 4 0) 5 0) 3 0)) 108 (upd (upd (upd (upd (mm_0.1 108) 4 0) 5 0) 3 0) 115 0)) 178 (upd (mm_0.1 178) (0 : Int32).toNatClampNeg 0)) 179 (upd (mm_0.1 179) (0 : Int32).toNatClampNeg 0)) z)) from by
                refine ⟨rfl, Nat.le_of_ble_eq_true rfl, Nat.le_of_ble_eq_true rfl, fun X hX => xm_run hX 100000 _ _ _ _ _ _ ?_⟩
                conv => whnf
                rw [H.1]
                conv => whnf
                refine ⟨rfl, ?_⟩
                conv => whnf
                rw [H.1]
                conv => whnf
                refine ⟨rfl, ?_⟩
                conv => whnf
                refine ⟨fun _ => ?_, fun c => absurd (by decide) c⟩
                conv => whnf
                rw [H.1]
                conv => whnf
                refine ⟨rfl, ?_⟩
                conv => whnf
                rw [H.1]
                conv => whnf
                refine ⟨rfl, ?_⟩
                conv => whnf
                refine ⟨fun _ => ?_, fun c => absurd (by decide) c⟩
                conv => whnf
                exact ⟨⟨.int, rfl, rfl⟩, rfl, rfl⟩
                all_goals rfl
                ) ?_⟩
            conv => whnf
            refine ⟨Nat.le_of_ble_eq_true rfl, xw1 0 0 (Nat.le_of_ble_eq_true rfl) (Nat.zero_le _) (Nat.zero_le _) (show xm_M xp ac lo xp_fty xp_dfl (xp_sv ad as (b, L, xs)) 997 nm_X12_letterOfPauli [.int 0] (hp (mm_i (mm_i (mm_i (mm_i (mm_i (mm_i (mm_i (mm_i (mm_i (mm_i (mm_i (mm_i (mm_i (mm_i (mm_i (mm_i mm_0 0 (upd (mm_0.1 0) 14 0)) 46 (upd (mm_0.1 46) 15 0)) 46 (upd (upd (mm_0.1 46) 15 0) 16 0)) 46 (upd (upd (upd (mm_0.1 46) 15 0) 16 0) 12 0)) 46 (upd (upd (upd (upd (mm_0.1 46) 15 0) 16 0) 12 0) 13 0)) 46 (upd (upd (upd (upd (upd (mm_0.1 46) 15 0) 16 0) 12 0) 13 0) 14 0)) 46 (upd (upd (upd (upd (upd (upd (mm_0.1 46) 15 0) 16 0) 12 0) 13 0) 14 0) 15 1)) 46 (upd (upd (upd (upd (upd (upd (upd (mm_0.1 46) 15 0) 16 0) 12 0) 13 0) 14 0) 15 1) 16 0)) 0 (upd (upd (mm_0.1 0) 14 0) 15 1)) 0 (upd (upd (upd (mm_0.1 0) 14 0) 15 1) 16 0)) 108 (upd (mm_0.1 108) 4 0)) 108 (upd (upd (mm_0.1 108) 4 0) 5 0)) 108 (upd (upd (upd (mm_0.1 108) 4 0) 5 0) 3 0)) 108 (upd (upd (upd (upd (mm_0.1 108) 4 0) 5 0) 3 0) 115 0)) 178 (upd (mm_0.1 178) (0 : Int32).toNatClampNeg 0)) 179 (upd (mm_0.1 179) (0 : Int32).toNatClampNeg 0)) z) 0 0 (xq1 (.int (-1)) (hp (mm_i (mm_i (mm_i (mm_i (mm_i (mm_i (mm_i (mm_i (mm_i (mm_i (mm_i (mm_i (mm_i (mm_i (mm_i (mm_i mm_0 0 (upd (mm_0.1 0) 14 0)) 46 (upd (mm_0.1 46) 15 0)) 46 (upd (upd (mm_0.1 46) 15 0) 16 0)) 46 (upd (upd (upd (mm_0.1 46) 15 0) 16 0) 12 0)) 46 (upd (upd (upd (upd (mm_0.1 46) 15 0) 16 0) 12 0) 13 0)) 46 (upd (upd (upd (upd (upd (mm_0.1 46) 15 0) 16 0) 12 0) 13 0) 14 0)) 46 (upd (upd (upd (upd (upd (upd (mm_0.1 46) 15 0) 16 0) 12 0) 13 0) 14 0) 15 1)) 46 (upd (upd (upd (upd (upd (upd (upd (mm_0.1 46) 15 0) 16 0) 12 0) 13 0) 14 0) 15 1) 16 0)) 0 (upd (upd (mm_0.1 0) 14 0) 15 1)) 0 (upd (upd (upd (mm_0.1 0) 14 0) 15 1) 16 0)) 108 (upd (mm_0.1 108) 4 0)) 108 (upd (upd (mm_0.1 108) 4 0) 5 0)) 108 (upd (upd (upd (mm_0.1 108) 4 0) 5 0) 3 0)) 108 (upd (upd (upd (upd (mm_0.1 108) 4 0) 5 0) 3 0) 115 0)) 178 (upd (mm_0.1 178) (0 : Int32).toNatClampNeg 0)) 179 (upd (mm_0.1 179) (0 : Int32).toNatClampNeg 0)) z)) from by
                refine ⟨rfl, Nat.le_of_ble_eq_true rfl, Nat.le_of_ble_eq_true rfl, fun X hX => xm_run hX 100000 _ _ _ _ _ _ ?_⟩
                conv => whnf
                refine ⟨fun _ => ?_, fun c => absurd (by decide) c⟩
                conv => whnf
                refine ⟨fun _ => ?_, fun c => absurd (by decide) c⟩
                conv => whnf
                refine ⟨fun _ => ?_, fun c => absurd (by decide) c⟩
                conv => whnf
                refine ⟨fun _ => ?_, fun c => absurd (by decide) c⟩
                conv => whnf
                exact ⟨⟨.int, rfl, rfl⟩, rfl, rfl⟩
                all_goals rfl
                ) ?_⟩
            conv => whnf
            refine ⟨Nat.le_of_ble_eq_true rfl, ?_⟩
            conv => whnf
            refine ⟨fun c => absurd (by decide) c, fun _ => ?_⟩
            conv => whnf
            refine ⟨fun c => absurd c (by decide), fun _ => ?_⟩
            conv => whnf
            refine ⟨Nat.le_of_ble_eq_true rfl, ?_⟩
            conv => whnf
            refine ⟨fun _ => ?_, fun c => absurd (by decide) c⟩
            conv => whnf
            refine ⟨fun c => absurd (by decide) c, fun _ => ?_⟩
            conv => whnf
            rw [H.1]
            conv => whnf
            refine ⟨rfl, Nat.le_add_right _ _, Nat.le_of_ble_eq_true rfl, ⟨rfl, rfl⟩, ?_⟩
            rw [H.2.2.1 _ _ 108 (upd (upd (upd (upd (upd (mm_0.1 108) 4 0) 5 0) 3 0) 115 0) 114 0)]
            conv => whnf
            refine ⟨fun _ => ?_, fun c => absurd (by decide) c⟩
            conv => whnf
            refine ⟨xw_O (by rw [H.1]; rfl), xw1 0 0 (Nat.le_of_ble_eq_true rfl) (Nat.zero_le _) (Nat.zero_le _) (show xm_M xp ac lo xp_fty xp_dfl (xp_sv ad as (b, L, xs)) 997 nm_X12_refuse [.ref (lo + 108)] (hp (mm_i (mm_i (mm_i (mm_i (mm_i (mm_i (mm_i (mm_i (mm_i (mm_i (mm_i (mm_i (mm_i (mm_i (mm_i (mm_i (mm_i mm_0 0 (upd (mm_0.1 0) 14 0)) 46 (upd (mm_0.1 46) 15 0)) 46 (upd (upd (mm_0.1 46) 15 0) 16 0)) 46 (upd (upd (upd (mm_0.1 46) 15 0) 16 0) 12 0)) 46 (upd (upd (upd (upd (mm_0.1 46) 15 0) 16 0) 12 0) 13 0)) 46 (upd (upd (upd (upd (upd (mm_0.1 46) 15 0) 16 0) 12 0) 13 0) 14 0)) 46 (upd (upd (upd (upd (upd (upd (mm_0.1 46) 15 0) 16 0) 12 0) 13 0) 14 0) 15 1)) 46 (upd (upd (upd (upd (upd (upd (upd (mm_0.1 46) 15 0) 16 0) 12 0) 13 0) 14 0) 15 1) 16 0)) 0 (upd (upd (mm_0.1 0) 14 0) 15 1)) 0 (upd (upd (upd (mm_0.1 0) 14 0) 15 1) 16 0)) 108 (upd (mm_0.1 108) 4 0)) 108 (upd (upd (mm_0.1 108) 4 0) 5 0)) 108 (upd (upd (upd (mm_0.1 108) 4 0) 5 0) 3 0)) 108 (upd (upd (upd (upd (mm_0.1 108) 4 0) 5 0) 3 0) 115 0)) 178 (upd (mm_0.1 178) (0 : Int32).toNatClampNeg 0)) 179 (upd (mm_0.1 179) (0 : Int32).toNatClampNeg 0)) 108 (upd (upd (upd (upd (upd (mm_0.1 108) 4 0) 5 0) 3 0) 115 0) 114 0)) z) 0 0 (xq1 (.int 0) (hp (mm_i (mm_i (mm_i (mm_i (mm_i (mm_i (mm_i (mm_i (mm_i (mm_i (mm_i (mm_i (mm_i (mm_i (mm_i (mm_i (mm_i (mm_i (mm_i mm_0 0 (upd (mm_0.1 0) 14 0)) 46 (upd (mm_0.1 46) 15 0)) 46 (upd (upd (mm_0.1 46) 15 0) 16 0)) 46 (upd (upd (upd (mm_0.1 46) 15 0) 16 0) 12 0)) 46 (upd (upd (upd (upd (mm_0.1 46) 15 0) 16 0) 12 0) 13 0)) 46 (upd (upd (upd (upd (upd (mm_0.1 46) 15 0) 16 0) 12 0) 13 0) 14 0)) 46 (upd (upd (upd (upd (upd (upd (mm_0.1 46) 15 0) 16 0) 12 0) 13 0) 14 0) 15 1)) 46 (upd (upd (upd (upd (upd (upd (upd (mm_0.1 46) 15 0) 16 0) 12 0) 13 0) 14 0) 15 1) 16 0)) 0 (upd (upd (mm_0.1 0) 14 0) 15 1)) 0 (upd (upd (upd (mm_0.1 0) 14 0) 15 1) 16 0)) 108 (upd (mm_0.1 108) 4 0)) 108 (upd (upd (mm_0.1 108) 4 0) 5 0)) 108 (upd (upd (upd (mm_0.1 108) 4 0) 5 0) 3 0)) 108 (upd (upd (upd (upd (mm_0.1 108) 4 0) 5 0) 3 0) 115 0)) 178 (upd (mm_0.1 178) (0 : Int32).toNatClampNeg 0)) 179 (upd (mm_0.1 179) (0 : Int32).toNatClampNeg 0)) 108 (upd (upd (upd (upd (upd (mm_0.1 108) 4 0) 5 0) 3 0) 115 0) 114 0)) 108 (upd (upd (upd (upd (upd (upd (mm_0.1 108) 4 0) 5 0) 3 0) 115 0) 114 0) 4 1)) 108 (upd (upd (upd (upd (upd (upd (upd (mm_0.1 108) 4 0) 5 0) 3 0) 115 0) 114 0) 4 1) 5 0)) z)) from by
                refine ⟨rfl, Nat.le_of_ble_eq_true rfl, Nat.le_of_ble_eq_true rfl, fun X hX => xm_run hX 100000 _ _ _ _ _ _ ?_⟩
                conv => whnf
                refine ⟨xw_O (by rw [H.1]; rfl), xw1 0 0 (Nat.le_of_ble_eq_true rfl) (Nat.zero_le _) (Nat.zero_le _) (show xm_M xp ac lo xp_fty xp_dfl (xp_sv ad as (b, L, xs)) 996 nm_X12_see [.ref (lo + 108)] (hp (mm_i (mm_i (mm_i (mm_i (mm_i (mm_i (mm_i (mm_i (mm_i (mm_i (mm_i (mm_i (mm_i (mm_i (mm_i (mm_i (mm_i mm_0 0 (upd (mm_0.1 0) 14 0)) 46 (upd (mm_0.1 46) 15 0)) 46 (upd (upd (mm_0.1 46) 15 0) 16 0)) 46 (upd (upd (upd (mm_0.1 46) 15 0) 16 0) 12 0)) 46 (upd (upd (upd (upd (mm_0.1 46) 15 0) 16 0) 12 0) 13 0)) 46 (upd (upd (upd (upd (upd (mm_0.1 46) 15 0) 16 0) 12 0) 13 0) 14 0)) 46 (upd (upd (upd (upd (upd (upd (mm_0.1 46) 15 0) 16 0) 12 0) 13 0) 14 0) 15 1)) 46 (upd (upd (upd (upd (upd (upd (upd (mm_0.1 46) 15 0) 16 0) 12 0) 13 0) 14 0) 15 1) 16 0)) 0 (upd (upd (mm_0.1 0) 14 0) 15 1)) 0 (upd (upd (upd (mm_0.1 0) 14 0) 15 1) 16 0)) 108 (upd (mm_0.1 108) 4 0)) 108 (upd (upd (mm_0.1 108) 4 0) 5 0)) 108 (upd (upd (upd (mm_0.1 108) 4 0) 5 0) 3 0)) 108 (upd (upd (upd (upd (mm_0.1 108) 4 0) 5 0) 3 0) 115 0)) 178 (upd (mm_0.1 178) (0 : Int32).toNatClampNeg 0)) 179 (upd (mm_0.1 179) (0 : Int32).toNatClampNeg 0)) 108 (upd (upd (upd (upd (upd (mm_0.1 108) 4 0) 5 0) 3 0) 115 0) 114 0)) z) 0 0 (xq1 (.int 0) (hp (mm_i (mm_i (mm_i (mm_i (mm_i (mm_i (mm_i (mm_i (mm_i (mm_i (mm_i (mm_i (mm_i (mm_i (mm_i (mm_i (mm_i mm_0 0 (upd (mm_0.1 0) 14 0)) 46 (upd (mm_0.1 46) 15 0)) 46 (upd (upd (mm_0.1 46) 15 0) 16 0)) 46 (upd (upd (upd (mm_0.1 46) 15 0) 16 0) 12 0)) 46 (upd (upd (upd (upd (mm_0.1 46) 15 0) 16 0) 12 0) 13 0)) 46 (upd (upd (upd (upd (upd (mm_0.1 46) 15 0) 16 0) 12 0) 13 0) 14 0)) 46 (upd (upd (upd (upd (upd (upd (mm_0.1 46) 15 0) 16 0) 12 0) 13 0) 14 0) 15 1)) 46 (upd (upd (upd (upd (upd (upd (upd (mm_0.1 46) 15 0) 16 0) 12 0) 13 0) 14 0) 15 1) 16 0)) 0 (upd (upd (mm_0.1 0) 14 0) 15 1)) 0 (upd (upd (upd (mm_0.1 0) 14 0) 15 1) 16 0)) 108 (upd (mm_0.1 108) 4 0)) 108 (upd (upd (mm_0.1 108) 4 0) 5 0)) 108 (upd (upd (upd (mm_0.1 108) 4 0) 5 0) 3 0)) 108 (upd (upd (upd (upd (mm_0.1 108) 4 0) 5 0) 3 0) 115 0)) 178 (upd (mm_0.1 178) (0 : Int32).toNatClampNeg 0)) 179 (upd (mm_0.1 179) (0 : Int32).toNatClampNeg 0)) 108 (upd (upd (upd (upd (upd (mm_0.1 108) 4 0) 5 0) 3 0) 115 0) 114 0)) z)) from by
                    refine ⟨rfl, Nat.le_of_ble_eq_true rfl, Nat.le_of_ble_eq_true rfl, fun X hX => xm_run hX 100000 _ _ _ _ _ _ ?_⟩
                    conv => whnf
                    rw [H.1]
                    conv => whnf
                    refine ⟨rfl, ?_⟩
                    conv => whnf
                    rw [H.1]
                    conv => whnf
                    refine ⟨rfl, ?_⟩
                    conv => whnf
                    refine ⟨fun _ => ?_, fun c => absurd (by decide) c⟩
                    conv => whnf
                    rw [H.1]
                    conv => whnf
                    refine ⟨rfl, ?_⟩
                    conv => whnf
                    rw [H.1]
                    conv => whnf
                    refine ⟨rfl, ?_⟩
                    conv => whnf
                    refine ⟨fun _ => ?_, fun c => absurd (by decide) c⟩
                    conv => whnf
                    exact ⟨⟨.int, rfl, rfl⟩, rfl, rfl⟩
                    all_goals rfl
                    ) ?_⟩
                conv => whnf
                refine ⟨rfl, ?_⟩
                conv => whnf
                rw [H.1]
                conv => whnf
                refine ⟨rfl, Nat.le_add_right _ _, Nat.le_of_ble_eq_true rfl, ⟨rfl, rfl⟩, ?_⟩
                rw [H.2.2.1 _ _ 108 (upd (upd (upd (upd (upd (upd (mm_0.1 108) 4 0) 5 0) 3 0) 115 0) 114 0) 4 1)]
                conv => whnf
                rw [H.1]
                conv => whnf
                refine ⟨rfl, ?_⟩
                conv => whnf
                rw [H.1]
                conv => whnf
                refine ⟨rfl, Nat.le_add_right _ _, Nat.le_of_ble_eq_true rfl, ⟨rfl, rfl⟩, ?_⟩
                rw [H.2.2.1 _ _ 108 (upd (upd (upd (upd (upd (upd (upd (mm_0.1 108) 4 0) 5 0) 3 0) 115 0) 114 0) 4 1) 5 0)]
                conv => whnf
                exact ⟨⟨.boolean, rfl, rfl⟩, rfl, rfl⟩
                all_goals rfl
                ) ?_⟩
            conv => whnf
            refine ⟨fun _ => ?_, fun c => absurd (by decide) c⟩
            conv => whnf
            exact ⟨⟨.boolean, rfl, rfl⟩, rfl, rfl⟩
            all_goals rfl
            ) ?_⟩
        conv => whnf
        refine ⟨fun c => absurd (by decide) c, fun _ => ?_⟩
        conv => whnf
        exact ⟨⟨.boolean, rfl, rfl⟩, rfl, rfl⟩
        all_goals rfl
        ) ?_⟩
    conv => whnf
    refine ⟨fun _ => ?_, fun c => absurd (by decide) c⟩
    conv => whnf
    refine ⟨Nat.le_of_ble_eq_true rfl, ?_⟩
    conv => whnf
    rw [H.1]
    conv => whnf
    refine ⟨rfl, Nat.le_add_right _ _, Nat.le_of_ble_eq_true rfl, ⟨rfl, rfl⟩, ?_⟩
    rw [H.2.2.1 _ _ 108 (upd (upd (upd (upd (upd (upd (upd (upd (mm_0.1 108) 4 0) 5 0) 3 0) 115 0) 114 0) 4 1) 5 0) 2 0)]
    conv => whnf
    refine ⟨fun c => absurd (by decide) c, fun _ => ?_⟩
    conv => whnf
    refine ⟨xw_O (by rw [H.1]; rfl), xw1 0 0 (Nat.le_of_ble_eq_true rfl) (Nat.zero_le _) (Nat.zero_le _) (show xm_M xp ac lo xp_fty xp_dfl (xp_sv ad as (b, L, xs)) 999 nm_X12_raise [.ref (lo + 108), .int 1] (hp (mm_i (mm_i (mm_i (mm_i (mm_i (mm_i (mm_i (mm_i (mm_i (mm_i (mm_i (mm_i (mm_i (mm_i (mm_i (mm_i (mm_i (mm_i (mm_i (mm_i mm_0 0 (upd (mm_0.1 0) 14 0)) 46 (upd (mm_0.1 46) 15 0)) 46 (upd (upd (mm_0.1 46) 15 0) 16 0)) 46 (upd (upd (upd (mm_0.1 46) 15 0) 16 0) 12 0)) 46 (upd (upd (upd (upd (mm_0.1 46) 15 0) 16 0) 12 0) 13 0)) 46 (upd (upd (upd (upd (upd (mm_0.1 46) 15 0) 16 0) 12 0) 13 0) 14 0)) 46 (upd (upd (upd (upd (upd (upd (mm_0.1 46) 15 0) 16 0) 12 0) 13 0) 14 0) 15 1)) 46 (upd (upd (upd (upd (upd (upd (upd (mm_0.1 46) 15 0) 16 0) 12 0) 13 0) 14 0) 15 1) 16 0)) 0 (upd (upd (mm_0.1 0) 14 0) 15 1)) 0 (upd (upd (upd (mm_0.1 0) 14 0) 15 1) 16 0)) 108 (upd (mm_0.1 108) 4 0)) 108 (upd (upd (mm_0.1 108) 4 0) 5 0)) 108 (upd (upd (upd (mm_0.1 108) 4 0) 5 0) 3 0)) 108 (upd (upd (upd (upd (mm_0.1 108) 4 0) 5 0) 3 0) 115 0)) 178 (upd (mm_0.1 178) (0 : Int32).toNatClampNeg 0)) 179 (upd (mm_0.1 179) (0 : Int32).toNatClampNeg 0)) 108 (upd (upd (upd (upd (upd (mm_0.1 108) 4 0) 5 0) 3 0) 115 0) 114 0)) 108 (upd (upd (upd (upd (upd (upd (mm_0.1 108) 4 0) 5 0) 3 0) 115 0) 114 0) 4 1)) 108 (upd (upd (upd (upd (upd (upd (upd (mm_0.1 108) 4 0) 5 0) 3 0) 115 0) 114 0) 4 1) 5 0)) 108 (upd (upd (upd (upd (upd (upd (upd (upd (mm_0.1 108) 4 0) 5 0) 3 0) 115 0) 114 0) 4 1) 5 0) 2 0)) z) 0 0 (xq1 (.int 0) (hp (mm_i (mm_i (mm_i (mm_i (mm_i (mm_i (mm_i (mm_i (mm_i (mm_i (mm_i (mm_i (mm_i (mm_i (mm_i (mm_i (mm_i (mm_i (mm_i (mm_i (mm_i mm_0 0 (upd (mm_0.1 0) 14 0)) 46 (upd (mm_0.1 46) 15 0)) 46 (upd (upd (mm_0.1 46) 15 0) 16 0)) 46 (upd (upd (upd (mm_0.1 46) 15 0) 16 0) 12 0)) 46 (upd (upd (upd (upd (mm_0.1 46) 15 0) 16 0) 12 0) 13 0)) 46 (upd (upd (upd (upd (upd (mm_0.1 46) 15 0) 16 0) 12 0) 13 0) 14 0)) 46 (upd (upd (upd (upd (upd (upd (mm_0.1 46) 15 0) 16 0) 12 0) 13 0) 14 0) 15 1)) 46 (upd (upd (upd (upd (upd (upd (upd (mm_0.1 46) 15 0) 16 0) 12 0) 13 0) 14 0) 15 1) 16 0)) 0 (upd (upd (mm_0.1 0) 14 0) 15 1)) 0 (upd (upd (upd (mm_0.1 0) 14 0) 15 1) 16 0)) 108 (upd (mm_0.1 108) 4 0)) 108 (upd (upd (mm_0.1 108) 4 0) 5 0)) 108 (upd (upd (upd (mm_0.1 108) 4 0) 5 0) 3 0)) 108 (upd (upd (upd (upd (mm_0.1 108) 4 0) 5 0) 3 0) 115 0)) 178 (upd (mm_0.1 178) (0 : Int32).toNatClampNeg 0)) 179 (upd (mm_0.1 179) (0 : Int32).toNatClampNeg 0)) 108 (upd (upd (upd (upd (upd (mm_0.1 108) 4 0) 5 0) 3 0) 115 0) 114 0)) 108 (upd (upd (upd (upd (upd (upd (mm_0.1 108) 4 0) 5 0) 3 0) 115 0) 114 0) 4 1)) 108 (upd (upd (upd (upd (upd (upd (upd (mm_0.1 108) 4 0) 5 0) 3 0) 115 0) 114 0) 4 1) 5 0)) 108 (upd (upd (upd (upd (upd (upd (upd (upd (mm_0.1 108) 4 0) 5 0) 3 0) 115 0) 114 0) 4 1) 5 0) 2 0)) 108 (upd (upd (upd (upd (upd (upd (upd (upd (upd (mm_0.1 108) 4 0) 5 0) 3 0) 115 0) 114 0) 4 1) 5 0) 2 0) 0 1)) z)) from by
        refine ⟨rfl, Nat.le_of_ble_eq_true rfl, Nat.le_of_ble_eq_true rfl, fun X hX => xm_run hX 100000 _ _ _ _ _ _ ?_⟩
        conv => whnf
        rw [H.1]
        conv => whnf
        refine ⟨rfl, Nat.le_add_right _ _, Nat.le_of_ble_eq_true rfl, ⟨rfl, rfl⟩, ?_⟩
        rw [H.2.2.1 _ _ 108 (upd (upd (upd (upd (upd (upd (upd (upd (upd (mm_0.1 108) 4 0) 5 0) 3 0) 115 0) 114 0) 4 1) 5 0) 2 0) 0 1)]
        conv => whnf
        exact ⟨⟨.int, rfl, rfl⟩, rfl, rfl⟩
        all_goals rfl
        ) ?_⟩
    conv => whnf
    exact ⟨⟨.int, rfl, rfl⟩, rfl, rfl⟩
    all_goals rfl
set_option maxRecDepth 100000 in
set_option maxHeartbeats 4000000 in
theorem pk_29 (H : mm_L ac lo hp) : ∀ (p0 : Int32), la_I ac lo ad as b L xs hp (fun M => M = mm_0) (fun _ => True) nm_X11_codes nm_X12_codes [.int p0] := by
  intro p0
  intro M z hM
  have hM : M = mm_0 := hM
  subst hM
  refine ⟨(-1), mm_0, (mm_i mm_0 108 (upd (mm_0.1 108) 0 0)), ?_, ?_, trivial⟩
  ·
    refine ⟨rfl, Nat.le_of_ble_eq_true rfl, Nat.le_of_ble_eq_true rfl, fun X hX => xm_run hX 100000 _ _ _ _ _ _ ?_⟩
    conv => whnf
    rw [H.1]
    conv => whnf
    refine ⟨rfl, ?_⟩
    conv => whnf
    rw [H.1]
    conv => whnf
    refine ⟨rfl, ?_⟩
    conv => whnf
    refine ⟨fun _ => ?_, fun c => absurd (by decide) c⟩
    conv => whnf
    exact ⟨⟨.int, rfl, rfl⟩, rfl, rfl⟩
    all_goals rfl
  ·
    refine ⟨rfl, Nat.le_of_ble_eq_true rfl, Nat.le_of_ble_eq_true rfl, fun X hX => xm_run hX 100000 _ _ _ _ _ _ ?_⟩
    conv => whnf
    rw [H.1]
    conv => whnf
    refine ⟨rfl, Nat.le_add_right _ _, Nat.le_of_ble_eq_true rfl, ⟨rfl, rfl⟩, ?_⟩
    rw [H.2.2.1 _ _ 108 (upd (mm_0.1 108) 0 0)]
    conv => whnf
    rw [H.1]
    conv => whnf
    refine ⟨rfl, ?_⟩
    conv => whnf
    refine ⟨fun c => absurd (by decide) c, fun _ => ?_⟩
    conv => whnf
    exact ⟨⟨.int, rfl, rfl⟩, rfl, rfl⟩
    all_goals rfl
set_option maxRecDepth 100000 in
set_option maxHeartbeats 4000000 in
theorem pk_30 (H : mm_L ac lo hp) : ∀ (p0 : Int32) (p1 : Int32), la_I ac lo ad as b L xs hp (fun M => M = mm_0) (fun _ => True) nm_X11_pauli nm_X12_pauli [.int p0, .int p1] := by
  intro p0 p1
  intro M z hM
  have hM : M = mm_0 := hM
  subst hM
  refine ⟨(-1), mm_0, (mm_i mm_0 108 (upd (mm_0.1 108) 0 0)), ?_, ?_, trivial⟩
  ·
    refine ⟨rfl, Nat.le_of_ble_eq_true rfl, Nat.le_of_ble_eq_true rfl, fun X hX => xm_run hX 100000 _ _ _ _ _ _ ?_⟩
    conv => whnf
    rw [H.1]
    conv => whnf
    refine ⟨rfl, ?_⟩
    conv => whnf
    rw [H.1]
    conv => whnf
    refine ⟨rfl, ?_⟩
    conv => whnf
    refine ⟨fun _ => ?_, fun c => absurd (by decide) c⟩
    conv => whnf
    exact ⟨⟨.int, rfl, rfl⟩, rfl, rfl⟩
    all_goals rfl
  ·
    refine ⟨rfl, Nat.le_of_ble_eq_true rfl, Nat.le_of_ble_eq_true rfl, fun X hX => xm_run hX 100000 _ _ _ _ _ _ ?_⟩
    conv => whnf
    rw [H.1]
    conv => whnf
    refine ⟨rfl, Nat.le_add_right _ _, Nat.le_of_ble_eq_true rfl, ⟨rfl, rfl⟩, ?_⟩
    rw [H.2.2.1 _ _ 108 (upd (mm_0.1 108) 0 0)]
    conv => whnf
    rw [H.1]
    conv => whnf
    refine ⟨rfl, ?_⟩
    conv => whnf
    refine ⟨fun _ => ?_, fun c => absurd (by decide) c⟩
    conv => whnf
    exact ⟨⟨.int, rfl, rfl⟩, rfl, rfl⟩
    all_goals rfl
set_option maxRecDepth 100000 in
set_option maxHeartbeats 4000000 in
theorem pk_31 (H : mm_L ac lo hp) : ∀ (p0 : Int32), la_I ac lo ad as b L xs hp (fun M => M = mm_0) (fun _ => True) nm_X11_form nm_X12_form [.int p0] := by
  intro p0
  intro M z hM
  have hM : M = mm_0 := hM
  subst hM
  by_cases c0 : p0 < 0
  ·
    refine ⟨(-1), mm_0, (mm_i mm_0 108 (upd (mm_0.1 108) 0 0)), ?_, ?_, trivial⟩
    ·
      refine ⟨rfl, Nat.le_of_ble_eq_true rfl, Nat.le_of_ble_eq_true rfl, fun X hX => xm_run hX 100000 _ _ _ _ _ _ ?_⟩
      conv => whnf
      rw [H.1]
      conv => whnf
      refine ⟨rfl, ?_⟩
      conv => whnf
      refine ⟨xw_O (by rw [H.1]; rfl), xw1 0 0 (Nat.le_of_ble_eq_true rfl) (Nat.zero_le _) (Nat.zero_le _) (show xm_M xp ac lo xp_fty xp_dfl (xp_sv ad as (b, L, xs)) 999 nm_X0_has [.ref (lo + 9), .int p0] (hp mm_0 z) 0 0 (xq1 (.int 0) (hp mm_0 z)) from by
          refine ⟨rfl, Nat.le_of_ble_eq_true rfl, Nat.le_of_ble_eq_true rfl, fun X hX => xm_run hX 100000 _ _ _ _ _ _ ?_⟩
          conv => whnf
          refine ⟨fun _ => ?_, fun c => absurd c0 c⟩
          conv => whnf
          exact ⟨⟨.boolean, rfl, rfl⟩, rfl, rfl⟩
          all_goals rfl
          ) ?_⟩
      conv => whnf
      refine ⟨fun _ => ?_, fun c => absurd (by decide) c⟩
      conv => whnf
      exact ⟨⟨.int, rfl, rfl⟩, rfl, rfl⟩
      all_goals rfl
    ·
      refine ⟨rfl, Nat.le_of_ble_eq_true rfl, Nat.le_of_ble_eq_true rfl, fun X hX => xm_run hX 100000 _ _ _ _ _ _ ?_⟩
      conv => whnf
      rw [H.1]
      conv => whnf
      refine ⟨rfl, Nat.le_add_right _ _, Nat.le_of_ble_eq_true rfl, ⟨rfl, rfl⟩, ?_⟩
      rw [H.2.2.1 _ _ 108 (upd (mm_0.1 108) 0 0)]
      conv => whnf
      refine ⟨xw_O (by rw [H.1]; rfl), xw1 0 0 (Nat.le_of_ble_eq_true rfl) (Nat.zero_le _) (Nat.zero_le _) (show xm_M xp ac lo xp_fty xp_dfl (xp_sv ad as (b, L, xs)) 999 nm_X12_isCircuit [.ref (lo + 108), .int p0] (hp (mm_i mm_0 108 (upd (mm_0.1 108) 0 0)) z) 0 0 (xq1 (.int 0) (hp (mm_i mm_0 108 (upd (mm_0.1 108) 0 0)) z)) from by
          refine ⟨rfl, Nat.le_of_ble_eq_true rfl, Nat.le_of_ble_eq_true rfl, fun X hX => xm_run hX 100000 _ _ _ _ _ _ ?_⟩
          conv => whnf
          refine ⟨fun _ => ?_, fun c => absurd c0 c⟩
          conv => whnf
          exact ⟨⟨.boolean, rfl, rfl⟩, rfl, rfl⟩
          all_goals rfl
          ) ?_⟩
      conv => whnf
      refine ⟨fun _ => ?_, fun c => absurd (by decide) c⟩
      conv => whnf
      exact ⟨⟨.int, rfl, rfl⟩, rfl, rfl⟩
      all_goals rfl
  ·
    refine ⟨(-1), mm_0, (mm_i mm_0 108 (upd (mm_0.1 108) 0 0)), ?_, ?_, trivial⟩
    ·
      refine ⟨rfl, Nat.le_of_ble_eq_true rfl, Nat.le_of_ble_eq_true rfl, fun X hX => xm_run hX 100000 _ _ _ _ _ _ ?_⟩
      conv => whnf
      rw [H.1]
      conv => whnf
      refine ⟨rfl, ?_⟩
      conv => whnf
      refine ⟨xw_O (by rw [H.1]; rfl), xw1 0 0 (Nat.le_of_ble_eq_true rfl) (Nat.zero_le _) (Nat.zero_le _) (show xm_M xp ac lo xp_fty xp_dfl (xp_sv ad as (b, L, xs)) 999 nm_X0_has [.ref (lo + 9), .int p0] (hp mm_0 z) 0 0 (xq1 (.int 0) (hp mm_0 z)) from by
          refine ⟨rfl, Nat.le_of_ble_eq_true rfl, Nat.le_of_ble_eq_true rfl, fun X hX => xm_run hX 100000 _ _ _ _ _ _ ?_⟩
          conv => whnf
          refine ⟨fun c => absurd c c0, fun _ => ?_⟩
          conv => whnf
          rw [H.1]
          conv => whnf
          refine ⟨rfl, ?_⟩
          conv => whnf
          refine ⟨fun _ => ?_, fun c => absurd (Int32.not_lt.mp c0) c⟩
          conv => whnf
          exact ⟨⟨.boolean, rfl, rfl⟩, rfl, rfl⟩
          all_goals rfl
          ) ?_⟩
      conv => whnf
      refine ⟨fun _ => ?_, fun c => absurd (by decide) c⟩
      conv => whnf
      exact ⟨⟨.int, rfl, rfl⟩, rfl, rfl⟩
      all_goals rfl
    ·
      refine ⟨rfl, Nat.le_of_ble_eq_true rfl, Nat.le_of_ble_eq_true rfl, fun X hX => xm_run hX 100000 _ _ _ _ _ _ ?_⟩
      conv => whnf
      rw [H.1]
      conv => whnf
      refine ⟨rfl, Nat.le_add_right _ _, Nat.le_of_ble_eq_true rfl, ⟨rfl, rfl⟩, ?_⟩
      rw [H.2.2.1 _ _ 108 (upd (mm_0.1 108) 0 0)]
      conv => whnf
      refine ⟨xw_O (by rw [H.1]; rfl), xw1 0 0 (Nat.le_of_ble_eq_true rfl) (Nat.zero_le _) (Nat.zero_le _) (show xm_M xp ac lo xp_fty xp_dfl (xp_sv ad as (b, L, xs)) 999 nm_X12_isCircuit [.ref (lo + 108), .int p0] (hp (mm_i mm_0 108 (upd (mm_0.1 108) 0 0)) z) 0 0 (xq1 (.int 0) (hp (mm_i mm_0 108 (upd (mm_0.1 108) 0 0)) z)) from by
          refine ⟨rfl, Nat.le_of_ble_eq_true rfl, Nat.le_of_ble_eq_true rfl, fun X hX => xm_run hX 100000 _ _ _ _ _ _ ?_⟩
          conv => whnf
          refine ⟨fun c => absurd c c0, fun _ => ?_⟩
          conv => whnf
          rw [H.1]
          conv => whnf
          refine ⟨rfl, ?_⟩
          conv => whnf
          refine ⟨fun _ => ?_, fun c => absurd (Int32.not_lt.mp c0) c⟩
          conv => whnf
          exact ⟨⟨.boolean, rfl, rfl⟩, rfl, rfl⟩
          all_goals rfl
          ) ?_⟩
      conv => whnf
      refine ⟨fun _ => ?_, fun c => absurd (by decide) c⟩
      conv => whnf
      exact ⟨⟨.int, rfl, rfl⟩, rfl, rfl⟩
      all_goals rfl
set_option maxRecDepth 100000 in
set_option maxHeartbeats 4000000 in
theorem pk_32 (H : mm_L ac lo hp) : ∀ (p0 : Int32), la_I ac lo ad as b L xs hp (fun M => M = mm_0) (fun _ => True) nm_X11_letter nm_X12_letter [.int p0] := by
  intro p0
  intro M z hM
  have hM : M = mm_0 := hM
  subst hM
  by_cases c0 : p0 = (-1)
  ·
    by_cases c1 : p0 < 0
    ·
      refine ⟨(-1), mm_0, (mm_i mm_0 108 (upd (mm_0.1 108) 0 0)), ?_, ?_, trivial⟩
      ·
        refine ⟨rfl, Nat.le_of_ble_eq_true rfl, Nat.le_of_ble_eq_true rfl, fun X hX => xm_run hX 100000 _ _ _ _ _ _ ?_⟩
        conv => whnf
        refine ⟨fun c => absurd c0 c, fun _ => ?_⟩
        conv => whnf
        rw [H.1]
        conv => whnf
        refine ⟨rfl, ?_⟩
        conv => whnf
        rw [H.1]
        conv => whnf
        refine ⟨rfl, ?_⟩
        conv => whnf
        refine ⟨fun _ => ?_, fun c => absurd (by decide) c⟩
        conv => whnf
        refine ⟨fun _ => ?_, fun c => absurd c1 c⟩
        conv => whnf
        exact ⟨⟨.int, rfl, rfl⟩, rfl, rfl⟩
        all_goals rfl
      ·
        refine ⟨rfl, Nat.le_of_ble_eq_true rfl, Nat.le_of_ble_eq_true rfl, fun X hX => xm_run hX 100000 _ _ _ _ _ _ ?_⟩
        conv => whnf
        rw [H.1]
        conv => whnf
        refine ⟨rfl, Nat.le_add_right _ _, Nat.le_of_ble_eq_true rfl, ⟨rfl, rfl⟩, ?_⟩
        rw [H.2.2.1 _ _ 108 (upd (mm_0.1 108) 0 0)]
        conv => whnf
        refine ⟨fun c => absurd c0 c, fun _ => ?_⟩
        conv => whnf
        rw [H.1]
        conv => whnf
        refine ⟨rfl, ?_⟩
        conv => whnf
        exact ⟨⟨.int, rfl, rfl⟩, rfl, rfl⟩
        all_goals rfl
    ·
      exfalso; simp only [Int32.lt_iff_toInt_lt, ← Int32.toInt_inj, (show ((-1) : Int32).toInt = -1 from rfl), (show (0 : Int32).toInt = 0 from rfl)] at c0 c1; omega
  ·
    by_cases c1 : p0 < 0
    ·
      refine ⟨(-1), mm_0, (mm_i mm_0 108 (upd (mm_0.1 108) 0 0)), ?_, ?_, trivial⟩
      ·
        refine ⟨rfl, Nat.le_of_ble_eq_true rfl, Nat.le_of_ble_eq_true rfl, fun X hX => xm_run hX 100000 _ _ _ _ _ _ ?_⟩
        conv => whnf
        refine ⟨fun _ => ?_, fun c => absurd c0 c⟩
        conv => whnf
        refine ⟨fun _ => ?_, fun c => absurd c1 c⟩
        conv => whnf
        exact ⟨⟨.int, rfl, rfl⟩, rfl, rfl⟩
        all_goals rfl
      ·
        refine ⟨rfl, Nat.le_of_ble_eq_true rfl, Nat.le_of_ble_eq_true rfl, fun X hX => xm_run hX 100000 _ _ _ _ _ _ ?_⟩
        conv => whnf
        rw [H.1]
        conv => whnf
        refine ⟨rfl, Nat.le_add_right _ _, Nat.le_of_ble_eq_true rfl, ⟨rfl, rfl⟩, ?_⟩
        rw [H.2.2.1 _ _ 108 (upd (mm_0.1 108) 0 0)]
        conv => whnf
        refine ⟨fun _ => ?_, fun c => absurd c0 c⟩
        conv => whnf
        rw [H.1]
        conv => whnf
        refine ⟨rfl, ?_⟩
        conv => whnf
        refine ⟨fun _ => ?_, fun c => absurd (by decide) c⟩
        conv => whnf
        exact ⟨⟨.int, rfl, rfl⟩, rfl, rfl⟩
        all_goals rfl
    ·
      by_cases c2 : p0 < (-1)
      ·
        exfalso; simp only [Int32.lt_iff_toInt_lt, ← Int32.toInt_inj, (show ((-1) : Int32).toInt = -1 from rfl), (show (0 : Int32).toInt = 0 from rfl)] at c0 c1 c2; omega
      ·
        refine ⟨(-1), mm_0, (mm_i mm_0 108 (upd (mm_0.1 108) 0 0)), ?_, ?_, trivial⟩
        ·
          refine ⟨rfl, Nat.le_of_ble_eq_true rfl, Nat.le_of_ble_eq_true rfl, fun X hX => xm_run hX 100000 _ _ _ _ _ _ ?_⟩
          conv => whnf
          refine ⟨fun _ => ?_, fun c => absurd c0 c⟩
          conv => whnf
          refine ⟨fun c => absurd c c1, fun _ => ?_⟩
          conv => whnf
          rw [H.1]
          conv => whnf
          refine ⟨rfl, ?_⟩
          conv => whnf
          rw [H.1]
          conv => whnf
          refine ⟨rfl, ?_⟩
          conv => whnf
          refine ⟨fun _ => ?_, fun c => absurd (Int32.not_lt.mp c2) c⟩
          conv => whnf
          exact ⟨⟨.int, rfl, rfl⟩, rfl, rfl⟩
          all_goals rfl
        ·
          refine ⟨rfl, Nat.le_of_ble_eq_true rfl, Nat.le_of_ble_eq_true rfl, fun X hX => xm_run hX 100000 _ _ _ _ _ _ ?_⟩
          conv => whnf
          rw [H.1]
          conv => whnf
          refine ⟨rfl, Nat.le_add_right _ _, Nat.le_of_ble_eq_true rfl, ⟨rfl, rfl⟩, ?_⟩
          rw [H.2.2.1 _ _ 108 (upd (mm_0.1 108) 0 0)]
          conv => whnf
          refine ⟨fun _ => ?_, fun c => absurd c0 c⟩
          conv => whnf
          rw [H.1]
          conv => whnf
          refine ⟨rfl, ?_⟩
          conv => whnf
          refine ⟨fun _ => ?_, fun c => absurd (by decide) c⟩
          conv => whnf
          exact ⟨⟨.int, rfl, rfl⟩, rfl, rfl⟩
          all_goals rfl
set_option maxRecDepth 100000 in
set_option maxHeartbeats 4000000 in
theorem pk_35 (H : mm_L ac lo hp) : ∀ (p0 : Int32), la_I ac lo ad as b L xs hp (fun M => M = mm_0) (fun _ => True) nm_X11_route nm_X12_route [.int p0] := by
  intro p0
  intro M z hM
  have hM : M = mm_0 := hM
  subst hM
  by_cases c0 : p0 < 0
  ·
    refine ⟨(-1), mm_0, (mm_i mm_0 108 (upd (mm_0.1 108) 0 0)), ?_, ?_, trivial⟩
    ·
      refine ⟨rfl, Nat.le_of_ble_eq_true rfl, Nat.le_of_ble_eq_true rfl, fun X hX => xm_run hX 100000 _ _ _ _ _ _ ?_⟩
      conv => whnf
      rw [H.1]
      conv => whnf
      refine ⟨rfl, ?_⟩
      conv => whnf
      refine ⟨xw_O (by rw [H.1]; rfl), xw1 0 0 (Nat.le_of_ble_eq_true rfl) (Nat.zero_le _) (Nat.zero_le _) (show xm_M xp ac lo xp_fty xp_dfl (xp_sv ad as (b, L, xs)) 999 nm_X0_has [.ref (lo + 9), .int p0] (hp mm_0 z) 0 0 (xq1 (.int 0) (hp mm_0 z)) from by
          refine ⟨rfl, Nat.le_of_ble_eq_true rfl, Nat.le_of_ble_eq_true rfl, fun X hX => xm_run hX 100000 _ _ _ _ _ _ ?_⟩
          conv => whnf
          refine ⟨fun _ => ?_, fun c => absurd c0 c⟩
          conv => whnf
          exact ⟨⟨.boolean, rfl, rfl⟩, rfl, rfl⟩
          all_goals rfl
          ) ?_⟩
      conv => whnf
      refine ⟨fun _ => ?_, fun c => absurd (by decide) c⟩
      conv => whnf
      exact ⟨⟨.int, rfl, rfl⟩, rfl, rfl⟩
      all_goals rfl
    ·
      refine ⟨rfl, Nat.le_of_ble_eq_true rfl, Nat.le_of_ble_eq_true rfl, fun X hX => xm_run hX 100000 _ _ _ _ _ _ ?_⟩
      conv => whnf
      rw [H.1]
      conv => whnf
      refine ⟨rfl, Nat.le_add_right _ _, Nat.le_of_ble_eq_true rfl, ⟨rfl, rfl⟩, ?_⟩
      rw [H.2.2.1 _ _ 108 (upd (mm_0.1 108) 0 0)]
      conv => whnf
      refine ⟨xw_O (by rw [H.1]; rfl), xw1 0 0 (Nat.le_of_ble_eq_true rfl) (Nat.zero_le _) (Nat.zero_le _) (show xm_M xp ac lo xp_fty xp_dfl (xp_sv ad as (b, L, xs)) 999 nm_X12_isCircuit [.ref (lo + 108), .int p0] (hp (mm_i mm_0 108 (upd (mm_0.1 108) 0 0)) z) 0 0 (xq1 (.int 0) (hp (mm_i mm_0 108 (upd (mm_0.1 108) 0 0)) z)) from by
          refine ⟨rfl, Nat.le_of_ble_eq_true rfl, Nat.le_of_ble_eq_true rfl, fun X hX => xm_run hX 100000 _ _ _ _ _ _ ?_⟩
          conv => whnf
          refine ⟨fun _ => ?_, fun c => absurd c0 c⟩
          conv => whnf
          exact ⟨⟨.boolean, rfl, rfl⟩, rfl, rfl⟩
          all_goals rfl
          ) ?_⟩
      conv => whnf
      refine ⟨fun _ => ?_, fun c => absurd (by decide) c⟩
      conv => whnf
      exact ⟨⟨.int, rfl, rfl⟩, rfl, rfl⟩
      all_goals rfl
  ·
    refine ⟨(-1), mm_0, (mm_i mm_0 108 (upd (mm_0.1 108) 0 0)), ?_, ?_, trivial⟩
    ·
      refine ⟨rfl, Nat.le_of_ble_eq_true rfl, Nat.le_of_ble_eq_true rfl, fun X hX => xm_run hX 100000 _ _ _ _ _ _ ?_⟩
      conv => whnf
      rw [H.1]
      conv => whnf
      refine ⟨rfl, ?_⟩
      conv => whnf
      refine ⟨xw_O (by rw [H.1]; rfl), xw1 0 0 (Nat.le_of_ble_eq_true rfl) (Nat.zero_le _) (Nat.zero_le _) (show xm_M xp ac lo xp_fty xp_dfl (xp_sv ad as (b, L, xs)) 999 nm_X0_has [.ref (lo + 9), .int p0] (hp mm_0 z) 0 0 (xq1 (.int 0) (hp mm_0 z)) from by
          refine ⟨rfl, Nat.le_of_ble_eq_true rfl, Nat.le_of_ble_eq_true rfl, fun X hX => xm_run hX 100000 _ _ _ _ _ _ ?_⟩
          conv => whnf
          refine ⟨fun c => absurd c c0, fun _ => ?_⟩
          conv => whnf
          rw [H.1]
          conv => whnf
          refine ⟨rfl, ?_⟩
          conv => whnf
          refine ⟨fun _ => ?_, fun c => absurd (Int32.not_lt.mp c0) c⟩
          conv => whnf
          exact ⟨⟨.boolean, rfl, rfl⟩, rfl, rfl⟩
          all_goals rfl
          ) ?_⟩
      conv => whnf
      refine ⟨fun _ => ?_, fun c => absurd (by decide) c⟩
      conv => whnf
      exact ⟨⟨.int, rfl, rfl⟩, rfl, rfl⟩
      all_goals rfl
    ·
      refine ⟨rfl, Nat.le_of_ble_eq_true rfl, Nat.le_of_ble_eq_true rfl, fun X hX => xm_run hX 100000 _ _ _ _ _ _ ?_⟩
      conv => whnf
      rw [H.1]
      conv => whnf
      refine ⟨rfl, Nat.le_add_right _ _, Nat.le_of_ble_eq_true rfl, ⟨rfl, rfl⟩, ?_⟩
      rw [H.2.2.1 _ _ 108 (upd (mm_0.1 108) 0 0)]
      conv => whnf
      refine ⟨xw_O (by rw [H.1]; rfl), xw1 0 0 (Nat.le_of_ble_eq_true rfl) (Nat.zero_le _) (Nat.zero_le _) (show xm_M xp ac lo xp_fty xp_dfl (xp_sv ad as (b, L, xs)) 999 nm_X12_isCircuit [.ref (lo + 108), .int p0] (hp (mm_i mm_0 108 (upd (mm_0.1 108) 0 0)) z) 0 0 (xq1 (.int 0) (hp (mm_i mm_0 108 (upd (mm_0.1 108) 0 0)) z)) from by
          refine ⟨rfl, Nat.le_of_ble_eq_true rfl, Nat.le_of_ble_eq_true rfl, fun X hX => xm_run hX 100000 _ _ _ _ _ _ ?_⟩
          conv => whnf
          refine ⟨fun c => absurd c c0, fun _ => ?_⟩
          conv => whnf
          rw [H.1]
          conv => whnf
          refine ⟨rfl, ?_⟩
          conv => whnf
          refine ⟨fun _ => ?_, fun c => absurd (Int32.not_lt.mp c0) c⟩
          conv => whnf
          exact ⟨⟨.boolean, rfl, rfl⟩, rfl, rfl⟩
          all_goals rfl
          ) ?_⟩
      conv => whnf
      refine ⟨fun _ => ?_, fun c => absurd (by decide) c⟩
      conv => whnf
      exact ⟨⟨.int, rfl, rfl⟩, rfl, rfl⟩
      all_goals rfl
set_option maxRecDepth 100000 in
set_option maxHeartbeats 4000000 in
theorem pk_37 (H : mm_L ac lo hp) : la_I ac lo ad as b L xs hp (fun M => M = mm_0) (fun _ => True) nm_X11_played nm_X12_played [] := by
  intro M z hM
  have hM : M = mm_0 := hM
  subst hM
  refine ⟨(-1), mm_0, (mm_i mm_0 108 (upd (mm_0.1 108) 0 0)), ?_, ?_, trivial⟩
  ·
    refine ⟨rfl, Nat.le_of_ble_eq_true rfl, Nat.le_of_ble_eq_true rfl, fun X hX => xm_run hX 100000 _ _ _ _ _ _ ?_⟩
    conv => whnf
    rw [H.1]
    conv => whnf
    refine ⟨rfl, ?_⟩
    conv => whnf
    exact ⟨⟨.int, rfl, rfl⟩, rfl, rfl⟩
    all_goals rfl
  ·
    refine ⟨rfl, Nat.le_of_ble_eq_true rfl, Nat.le_of_ble_eq_true rfl, fun X hX => xm_run hX 100000 _ _ _ _ _ _ ?_⟩
    conv => whnf
    rw [H.1]
    conv => whnf
    refine ⟨rfl, Nat.le_add_right _ _, Nat.le_of_ble_eq_true rfl, ⟨rfl, rfl⟩, ?_⟩
    rw [H.2.2.1 _ _ 108 (upd (mm_0.1 108) 0 0)]
    conv => whnf
    rw [H.1]
    conv => whnf
    refine ⟨rfl, ?_⟩
    conv => whnf
    exact ⟨⟨.int, rfl, rfl⟩, rfl, rfl⟩
    all_goals rfl
set_option maxRecDepth 100000 in
set_option maxHeartbeats 4000000 in
theorem pk_38 (H : mm_L ac lo hp) : ∀ (p0 : Int32) (p1 : Int32) (p2 : Int32) (p3 : Int32) (p4 : Int32), la_I ac lo ad as b L xs hp (fun M => M = mm_0) (fun _ => True) nm_X11_faulty nm_X12_faulty [.int p0, .int p1, .int p2, .int p3, .int p4] := by
  intro p0 p1 p2 p3 p4
  intro M z hM
  have hM : M = mm_0 := hM
  subst hM
  by_cases c0 : p0 < 0
  ·
    refine ⟨(-1), mm_0, (mm_i mm_0 108 (upd (mm_0.1 108) 0 0)), ?_, ?_, trivial⟩
    ·
      refine ⟨rfl, Nat.le_of_ble_eq_true rfl, Nat.le_of_ble_eq_true rfl, fun X hX => xm_run hX 100000 _ _ _ _ _ _ ?_⟩
      conv => whnf
      rw [H.1]
      conv => whnf
      refine ⟨rfl, ?_⟩
      conv => whnf
      refine ⟨xw_O (by rw [H.1]; rfl), xw1 0 0 (Nat.le_of_ble_eq_true rfl) (Nat.zero_le _) (Nat.zero_le _) (show xm_M xp ac lo xp_fty xp_dfl (xp_sv ad as (b, L, xs)) 999 nm_X0_has [.ref (lo + 9), .int p0] (hp mm_0 z) 0 0 (xq1 (.int 0) (hp mm_0 z)) from by
          refine ⟨rfl, Nat.le_of_ble_eq_true rfl, Nat.le_of_ble_eq_true rfl, fun X hX => xm_run hX 100000 _ _ _ _ _ _ ?_⟩
          conv => whnf
          refine ⟨fun _ => ?_, fun c => absurd c0 c⟩
          conv => whnf
          exact ⟨⟨.boolean, rfl, rfl⟩, rfl, rfl⟩
          all_goals rfl
          ) ?_⟩
      conv => whnf
      refine ⟨fun _ => ?_, fun c => absurd (by decide) c⟩
      conv => whnf
      exact ⟨⟨.int, rfl, rfl⟩, rfl, rfl⟩
      all_goals rfl
    ·
      refine ⟨rfl, Nat.le_of_ble_eq_true rfl, Nat.le_of_ble_eq_true rfl, fun X hX => xm_run hX 100000 _ _ _ _ _ _ ?_⟩
      conv => whnf
      rw [H.1]
      conv => whnf
      refine ⟨rfl, Nat.le_add_right _ _, Nat.le_of_ble_eq_true rfl, ⟨rfl, rfl⟩, ?_⟩
      rw [H.2.2.1 _ _ 108 (upd (mm_0.1 108) 0 0)]
      conv => whnf
      refine ⟨xw_O (by rw [H.1]; rfl), xw1 0 0 (Nat.le_of_ble_eq_true rfl) (Nat.zero_le _) (Nat.zero_le _) (show xm_M xp ac lo xp_fty xp_dfl (xp_sv ad as (b, L, xs)) 999 nm_X12_isCircuit [.ref (lo + 108), .int p0] (hp (mm_i mm_0 108 (upd (mm_0.1 108) 0 0)) z) 0 0 (xq1 (.int 0) (hp (mm_i mm_0 108 (upd (mm_0.1 108) 0 0)) z)) from by
          refine ⟨rfl, Nat.le_of_ble_eq_true rfl, Nat.le_of_ble_eq_true rfl, fun X hX => xm_run hX 100000 _ _ _ _ _ _ ?_⟩
          conv => whnf
          refine ⟨fun _ => ?_, fun c => absurd c0 c⟩
          conv => whnf
          exact ⟨⟨.boolean, rfl, rfl⟩, rfl, rfl⟩
          all_goals rfl
          ) ?_⟩
      conv => whnf
      refine ⟨fun _ => ?_, fun c => absurd (by decide) c⟩
      conv => whnf
      exact ⟨⟨.int, rfl, rfl⟩, rfl, rfl⟩
      all_goals rfl
  ·
    refine ⟨(-1), mm_0, (mm_i mm_0 108 (upd (mm_0.1 108) 0 0)), ?_, ?_, trivial⟩
    ·
      refine ⟨rfl, Nat.le_of_ble_eq_true rfl, Nat.le_of_ble_eq_true rfl, fun X hX => xm_run hX 100000 _ _ _ _ _ _ ?_⟩
      conv => whnf
      rw [H.1]
      conv => whnf
      refine ⟨rfl, ?_⟩
      conv => whnf
      refine ⟨xw_O (by rw [H.1]; rfl), xw1 0 0 (Nat.le_of_ble_eq_true rfl) (Nat.zero_le _) (Nat.zero_le _) (show xm_M xp ac lo xp_fty xp_dfl (xp_sv ad as (b, L, xs)) 999 nm_X0_has [.ref (lo + 9), .int p0] (hp mm_0 z) 0 0 (xq1 (.int 0) (hp mm_0 z)) from by
          refine ⟨rfl, Nat.le_of_ble_eq_true rfl, Nat.le_of_ble_eq_true rfl, fun X hX => xm_run hX 100000 _ _ _ _ _ _ ?_⟩
          conv => whnf
          refine ⟨fun c => absurd c c0, fun _ => ?_⟩
          conv => whnf
          rw [H.1]
          conv => whnf
          refine ⟨rfl, ?_⟩
          conv => whnf
          refine ⟨fun _ => ?_, fun c => absurd (Int32.not_lt.mp c0) c⟩
          conv => whnf
          exact ⟨⟨.boolean, rfl, rfl⟩, rfl, rfl⟩
          all_goals rfl
          ) ?_⟩
      conv => whnf
      refine ⟨fun _ => ?_, fun c => absurd (by decide) c⟩
      conv => whnf
      exact ⟨⟨.int, rfl, rfl⟩, rfl, rfl⟩
      all_goals rfl
    ·
      refine ⟨rfl, Nat.le_of_ble_eq_true rfl, Nat.le_of_ble_eq_true rfl, fun X hX => xm_run hX 100000 _ _ _ _ _ _ ?_⟩
      conv => whnf
      rw [H.1]
      conv => whnf
      refine ⟨rfl, Nat.le_add_right _ _, Nat.le_of_ble_eq_true rfl, ⟨rfl, rfl⟩, ?_⟩
      rw [H.2.2.1 _ _ 108 (upd (mm_0.1 108) 0 0)]
      conv => whnf
      refine ⟨xw_O (by rw [H.1]; rfl), xw1 0 0 (Nat.le_of_ble_eq_true rfl) (Nat.zero_le _) (Nat.zero_le _) (show xm_M xp ac lo xp_fty xp_dfl (xp_sv ad as (b, L, xs)) 999 nm_X12_isCircuit [.ref (lo + 108), .int p0] (hp (mm_i mm_0 108 (upd (mm_0.1 108) 0 0)) z) 0 0 (xq1 (.int 0) (hp (mm_i mm_0 108 (upd (mm_0.1 108) 0 0)) z)) from by
          refine ⟨rfl, Nat.le_of_ble_eq_true rfl, Nat.le_of_ble_eq_true rfl, fun X hX => xm_run hX 100000 _ _ _ _ _ _ ?_⟩
          conv => whnf
          refine ⟨fun c => absurd c c0, fun _ => ?_⟩
          conv => whnf
          rw [H.1]
          conv => whnf
          refine ⟨rfl, ?_⟩
          conv => whnf
          refine ⟨fun _ => ?_, fun c => absurd (Int32.not_lt.mp c0) c⟩
          conv => whnf
          exact ⟨⟨.boolean, rfl, rfl⟩, rfl, rfl⟩
          all_goals rfl
          ) ?_⟩
      conv => whnf
      refine ⟨fun _ => ?_, fun c => absurd (by decide) c⟩
      conv => whnf
      exact ⟨⟨.int, rfl, rfl⟩, rfl, rfl⟩
      all_goals rfl
set_option maxRecDepth 100000 in
set_option maxHeartbeats 4000000 in
theorem pk_42 (H : mm_L ac lo hp) : ∀ (p0 : Int32) (p1 : Int32), la_TI ac lo ad as b L xs hp (fun M => M = mm_0) (fun _ => True) nm_L_told nm_X12_told [.int p0, .int p1] := by
  intro p0 p1
  intro M z hM
  have hM : M = mm_0 := hM
  subst hM
  by_cases c0 : p0 < 0
  ·
    refine ⟨1, 0, mm_0, (mm_i mm_0 108 (upd (mm_0.1 108) 0 1)), ?_, fun z => ?_, rfl, fun h => absurd h (by decide), trivial⟩
    ·
      refine ⟨rfl, Nat.le_of_ble_eq_true rfl, Nat.le_of_ble_eq_true rfl, fun X hX => xm_run hX 1000 _ _ _ _ _ _ ?_⟩
      conv => whnf
      refine ⟨xw_O (by rw [H.1]; rfl), xw_thr (hp := hp) (M := mm_0) "java/util/NoSuchElementException" (Nat.le_of_ble_eq_true rfl) (Nat.le_of_ble_eq_true rfl) (Nat.le_of_ble_eq_true rfl) (show xm_M xp ac lo xp_fty xp_dfl (xp_sv ad as (b, L, xs)) 999 nm_X11_told [.ref (lo + 0), .int p0, .int p1] (hp mm_0 z) 1 6 (fun r h => r = .inr "java/util/NoSuchElementException" ∧ ∃ z, h = hp mm_0 z) from by
          refine ⟨rfl, Nat.le_of_ble_eq_true rfl, Nat.le_of_ble_eq_true rfl, fun X hX => xm_run hX 100000 _ _ _ _ _ _ ?_⟩
          conv => whnf
          refine ⟨fun _ => ?_, fun c => absurd c0 c⟩
          conv => whnf
          exact ⟨rfl, by decide, Nat.le_of_ble_eq_true rfl, Nat.le_of_ble_eq_true rfl, Nat.le_of_ble_eq_true rfl, fun z9 _ => ⟨rfl, z9, H.2.2.2.2 _ _ _⟩⟩
          all_goals rfl
          ) (fun z => ?_)⟩
      refine xw_hd (hh := (0, 10, 13, 25, "java/util/NoSuchElementException") :: []) rfl (by
        intro e he
        simp only [List.mem_cons, List.not_mem_nil, or_false] at he
        subst he
        exact Or.inl rfl
        ) (by decide +kernel : xm_hd 5 "java/util/NoSuchElementException" [(0, 10, 13, 25, "java/util/NoSuchElementException")] = some 13) (fun q => ?_)
      conv => whnf
      refine ⟨Nat.le_of_ble_eq_true rfl, ?_⟩
      conv => whnf
      exact ⟨⟨.int, rfl, rfl⟩, rfl, _, rfl⟩
    ·
      refine ⟨rfl, Nat.le_of_ble_eq_true rfl, Nat.le_of_ble_eq_true rfl, fun X hX => xm_run hX 100000 _ _ _ _ _ _ ?_⟩
      conv => whnf
      refine ⟨fun _ => ?_, fun c => absurd c0 c⟩
      conv => whnf
      refine ⟨xw_O (by rw [H.1]; rfl), xw1 0 0 (Nat.le_of_ble_eq_true rfl) (Nat.zero_le _) (Nat.zero_le _) (show xm_M xp ac lo xp_fty xp_dfl (xp_sv ad as (b, L, xs)) 999 nm_X12_raise [.ref (lo + 108), .int 1] (hp mm_0 z) 0 0 (xq1 (.int 0) (hp (mm_i mm_0 108 (upd (mm_0.1 108) 0 1)) z)) from by
          refine ⟨rfl, Nat.le_of_ble_eq_true rfl, Nat.le_of_ble_eq_true rfl, fun X hX => xm_run hX 100000 _ _ _ _ _ _ ?_⟩
          conv => whnf
          rw [H.1]
          conv => whnf
          refine ⟨rfl, Nat.le_add_right _ _, Nat.le_of_ble_eq_true rfl, ⟨rfl, rfl⟩, ?_⟩
          rw [H.2.2.1 _ _ 108 (upd (mm_0.1 108) 0 1)]
          conv => whnf
          exact ⟨⟨.int, rfl, rfl⟩, rfl, rfl⟩
          all_goals rfl
          ) ?_⟩
      conv => whnf
      exact ⟨⟨.int, rfl, rfl⟩, rfl, rfl⟩
      all_goals rfl
  ·
    refine ⟨1, 0, mm_0, (mm_i mm_0 108 (upd (mm_0.1 108) 0 1)), ?_, fun z => ?_, rfl, fun h => absurd h (by decide), trivial⟩
    ·
      refine ⟨rfl, Nat.le_of_ble_eq_true rfl, Nat.le_of_ble_eq_true rfl, fun X hX => xm_run hX 1000 _ _ _ _ _ _ ?_⟩
      conv => whnf
      refine ⟨xw_O (by rw [H.1]; rfl), xw_thr (hp := hp) (M := mm_0) "java/util/NoSuchElementException" (Nat.le_of_ble_eq_true rfl) (Nat.le_of_ble_eq_true rfl) (Nat.le_of_ble_eq_true rfl) (show xm_M xp ac lo xp_fty xp_dfl (xp_sv ad as (b, L, xs)) 999 nm_X11_told [.ref (lo + 0), .int p0, .int p1] (hp mm_0 z) 1 6 (fun r h => r = .inr "java/util/NoSuchElementException" ∧ ∃ z, h = hp mm_0 z) from by
          refine ⟨rfl, Nat.le_of_ble_eq_true rfl, Nat.le_of_ble_eq_true rfl, fun X hX => xm_run hX 100000 _ _ _ _ _ _ ?_⟩
          conv => whnf
          refine ⟨fun c => absurd c c0, fun _ => ?_⟩
          conv => whnf
          rw [H.1]
          conv => whnf
          refine ⟨rfl, ?_⟩
          conv => whnf
          rw [H.1]
          conv => whnf
          refine ⟨rfl, ?_⟩
          conv => whnf
          rw [H.1]
          conv => whnf
          refine ⟨rfl, (by unfold vp_in; decide), ?_⟩
          conv => whnf
          refine ⟨fun _ => ?_, fun c => absurd (Int32.not_lt.mp c0) c⟩
          conv => whnf
          exact ⟨rfl, by decide, Nat.le_of_ble_eq_true rfl, Nat.le_of_ble_eq_true rfl, Nat.le_of_ble_eq_true rfl, fun z9 _ => ⟨rfl, z9, H.2.2.2.2 _ _ _⟩⟩
          all_goals rfl
          ) (fun z => ?_)⟩
      refine xw_hd (hh := (0, 10, 13, 25, "java/util/NoSuchElementException") :: []) rfl (by
        intro e he
        simp only [List.mem_cons, List.not_mem_nil, or_false] at he
        subst he
        exact Or.inl rfl
        ) (by decide +kernel : xm_hd 5 "java/util/NoSuchElementException" [(0, 10, 13, 25, "java/util/NoSuchElementException")] = some 13) (fun q => ?_)
      conv => whnf
      refine ⟨Nat.le_of_ble_eq_true rfl, ?_⟩
      conv => whnf
      exact ⟨⟨.int, rfl, rfl⟩, rfl, _, rfl⟩
    ·
      refine ⟨rfl, Nat.le_of_ble_eq_true rfl, Nat.le_of_ble_eq_true rfl, fun X hX => xm_run hX 100000 _ _ _ _ _ _ ?_⟩
      conv => whnf
      refine ⟨fun c => absurd c c0, fun _ => ?_⟩
      conv => whnf
      rw [H.1]
      conv => whnf
      refine ⟨rfl, ?_⟩
      conv => whnf
      rw [H.1]
      conv => whnf
      refine ⟨rfl, (by unfold vp_in; decide), ?_⟩
      conv => whnf
      refine ⟨fun c => absurd c c0, fun _ => ?_⟩
      conv => whnf
      refine ⟨xw_O (by rw [H.1]; rfl), xw1 0 0 (Nat.le_of_ble_eq_true rfl) (Nat.zero_le _) (Nat.zero_le _) (show xm_M xp ac lo xp_fty xp_dfl (xp_sv ad as (b, L, xs)) 999 nm_X12_raise [.ref (lo + 108), .int 1] (hp mm_0 z) 0 0 (xq1 (.int 0) (hp (mm_i mm_0 108 (upd (mm_0.1 108) 0 1)) z)) from by
          refine ⟨rfl, Nat.le_of_ble_eq_true rfl, Nat.le_of_ble_eq_true rfl, fun X hX => xm_run hX 100000 _ _ _ _ _ _ ?_⟩
          conv => whnf
          rw [H.1]
          conv => whnf
          refine ⟨rfl, Nat.le_add_right _ _, Nat.le_of_ble_eq_true rfl, ⟨rfl, rfl⟩, ?_⟩
          rw [H.2.2.1 _ _ 108 (upd (mm_0.1 108) 0 1)]
          conv => whnf
          exact ⟨⟨.int, rfl, rfl⟩, rfl, rfl⟩
          all_goals rfl
          ) ?_⟩
      conv => whnf
      exact ⟨⟨.int, rfl, rfl⟩, rfl, rfl⟩
      all_goals rfl
set_option maxRecDepth 100000 in
set_option maxHeartbeats 4000000 in
theorem pk_43 (H : mm_L ac lo hp) : la_I ac lo ad as b L xs hp (fun M => M = mm_0) (fun _ => True) nm_X11_commutes nm_X12_commutes [] := by
  intro M z hM
  have hM : M = mm_0 := hM
  subst hM
  refine ⟨1, mm_0, (mm_i mm_0 108 (upd (mm_0.1 108) 0 0)), ?_, ?_, trivial⟩
  ·
    refine ⟨rfl, Nat.le_of_ble_eq_true rfl, Nat.le_of_ble_eq_true rfl, fun X hX => xm_run hX 100000 _ _ _ _ _ _ ?_⟩
    conv => whnf
    rw [H.1]
    conv => whnf
    refine ⟨rfl, ?_⟩
    conv => whnf
    refine ⟨xw_O (by rw [H.1]; rfl), xw1 0 0 (Nat.le_of_ble_eq_true rfl) (Nat.zero_le _) (Nat.zero_le _) (show xm_M xp ac lo xp_fty xp_dfl (xp_sv ad as (b, L, xs)) 999 nm_X9_allCommute [.ref (lo + 83)] (hp mm_0 z) 0 0 (xq1 (.int 1) (hp mm_0 z)) from by
        refine ⟨rfl, Nat.le_of_ble_eq_true rfl, Nat.le_of_ble_eq_true rfl, fun X hX => xm_run hX 100000 _ _ _ _ _ _ ?_⟩
        conv => whnf
        refine ⟨Nat.le_of_ble_eq_true rfl, ?_⟩
        conv => whnf
        rw [H.1]
        conv => whnf
        refine ⟨rfl, ?_⟩
        conv => whnf
        rw [H.1]
        conv => whnf
        refine ⟨rfl, (by unfold vp_in; decide), ?_⟩
        conv => whnf
        refine ⟨fun _ => ?_, fun c => absurd (by decide) c⟩
        conv => whnf
        exact ⟨⟨.boolean, rfl, rfl⟩, rfl, rfl⟩
        all_goals rfl
        ) ?_⟩
    conv => whnf
    exact ⟨⟨.boolean, rfl, rfl⟩, rfl, rfl⟩
    all_goals rfl
  ·
    refine ⟨rfl, Nat.le_of_ble_eq_true rfl, Nat.le_of_ble_eq_true rfl, fun X hX => xm_run hX 100000 _ _ _ _ _ _ ?_⟩
    conv => whnf
    rw [H.1]
    conv => whnf
    refine ⟨rfl, Nat.le_add_right _ _, Nat.le_of_ble_eq_true rfl, ⟨rfl, rfl⟩, ?_⟩
    rw [H.2.2.1 _ _ 108 (upd (mm_0.1 108) 0 0)]
    conv => whnf
    refine ⟨Nat.le_of_ble_eq_true rfl, ?_⟩
    conv => whnf
    rw [H.1]
    conv => whnf
    refine ⟨rfl, ?_⟩
    conv => whnf
    rw [H.1]
    conv => whnf
    refine ⟨rfl, (by unfold vp_in; decide), ?_⟩
    conv => whnf
    refine ⟨fun _ => ?_, fun c => absurd (by decide) c⟩
    conv => whnf
    exact ⟨⟨.boolean, rfl, rfl⟩, rfl, rfl⟩
    all_goals rfl
set_option maxRecDepth 100000 in
set_option maxHeartbeats 4000000 in
theorem pk_45 (H : mm_L ac lo hp) : ∀ (p0 : Int32) (p1 : Int32), la_I ac lo ad as b L xs hp (fun M => M = mm_0) (fun _ => True) nm_X11_mix nm_X12_mix [.int p0, .int p1] := by
  intro p0 p1
  intro M z hM
  have hM : M = mm_0 := hM
  subst hM
  refine ⟨0, mm_0, (mm_i mm_0 108 (upd (mm_0.1 108) 0 0)), ?_, ?_, trivial⟩
  ·
    refine ⟨rfl, Nat.le_of_ble_eq_true rfl, Nat.le_of_ble_eq_true rfl, fun X hX => xm_run hX 100000 _ _ _ _ _ _ ?_⟩
    conv => whnf
    rw [H.1]
    conv => whnf
    refine ⟨rfl, ?_⟩
    conv => whnf
    rw [H.1]
    conv => whnf
    refine ⟨rfl, ?_⟩
    conv => whnf
    refine ⟨fun _ => ?_, fun c => absurd (by decide) c⟩
    conv => whnf
    exact ⟨⟨.boolean, rfl, rfl⟩, rfl, rfl⟩
    all_goals rfl
  ·
    refine ⟨rfl, Nat.le_of_ble_eq_true rfl, Nat.le_of_ble_eq_true rfl, fun X hX => xm_run hX 100000 _ _ _ _ _ _ ?_⟩
    conv => whnf
    rw [H.1]
    conv => whnf
    refine ⟨rfl, Nat.le_add_right _ _, Nat.le_of_ble_eq_true rfl, ⟨rfl, rfl⟩, ?_⟩
    rw [H.2.2.1 _ _ 108 (upd (mm_0.1 108) 0 0)]
    conv => whnf
    rw [H.1]
    conv => whnf
    refine ⟨rfl, ?_⟩
    conv => whnf
    refine ⟨fun _ => ?_, fun c => absurd (by decide) c⟩
    conv => whnf
    exact ⟨⟨.boolean, rfl, rfl⟩, rfl, rfl⟩
    all_goals rfl
set_option maxRecDepth 100000 in
set_option maxHeartbeats 4000000 in
theorem pk_46 (H : mm_L ac lo hp) : ∀ (p0 : Int32) (p1 : Int32) (p2 : Int32), la_I ac lo ad as b L xs hp (fun M => M = mm_0) (fun _ => True) nm_X11_spoil nm_X12_spoil [.int p0, .int p1, .int p2] := by
  intro p0 p1 p2
  intro M z hM
  have hM : M = mm_0 := hM
  subst hM
  by_cases c0 : p0 < 0
  ·
    refine ⟨0, mm_0, (mm_i mm_0 108 (upd (mm_0.1 108) 0 0)), ?_, ?_, trivial⟩
    ·
      refine ⟨rfl, Nat.le_of_ble_eq_true rfl, Nat.le_of_ble_eq_true rfl, fun X hX => xm_run hX 100000 _ _ _ _ _ _ ?_⟩
      conv => whnf
      refine ⟨fun _ => ?_, fun c => absurd c0 c⟩
      conv => whnf
      exact ⟨⟨.boolean, rfl, rfl⟩, rfl, rfl⟩
      all_goals rfl
    ·
      refine ⟨rfl, Nat.le_of_ble_eq_true rfl, Nat.le_of_ble_eq_true rfl, fun X hX => xm_run hX 100000 _ _ _ _ _ _ ?_⟩
      conv => whnf
      rw [H.1]
      conv => whnf
      refine ⟨rfl, Nat.le_add_right _ _, Nat.le_of_ble_eq_true rfl, ⟨rfl, rfl⟩, ?_⟩
      rw [H.2.2.1 _ _ 108 (upd (mm_0.1 108) 0 0)]
      conv => whnf
      rw [H.1]
      conv => whnf
      refine ⟨rfl, ?_⟩
      conv => whnf
      refine ⟨fun _ => ?_, fun c => absurd (by decide) c⟩
      conv => whnf
      exact ⟨⟨.boolean, rfl, rfl⟩, rfl, rfl⟩
      all_goals rfl
  ·
    refine ⟨0, mm_0, (mm_i mm_0 108 (upd (mm_0.1 108) 0 0)), ?_, ?_, trivial⟩
    ·
      refine ⟨rfl, Nat.le_of_ble_eq_true rfl, Nat.le_of_ble_eq_true rfl, fun X hX => xm_run hX 100000 _ _ _ _ _ _ ?_⟩
      conv => whnf
      refine ⟨fun c => absurd c c0, fun _ => ?_⟩
      conv => whnf
      rw [H.1]
      conv => whnf
      refine ⟨rfl, ?_⟩
      conv => whnf
      rw [H.1]
      conv => whnf
      refine ⟨rfl, ?_⟩
      conv => whnf
      refine ⟨fun _ => ?_, fun c => absurd (Int32.not_lt.mp c0) c⟩
      conv => whnf
      exact ⟨⟨.boolean, rfl, rfl⟩, rfl, rfl⟩
      all_goals rfl
    ·
      refine ⟨rfl, Nat.le_of_ble_eq_true rfl, Nat.le_of_ble_eq_true rfl, fun X hX => xm_run hX 100000 _ _ _ _ _ _ ?_⟩
      conv => whnf
      rw [H.1]
      conv => whnf
      refine ⟨rfl, Nat.le_add_right _ _, Nat.le_of_ble_eq_true rfl, ⟨rfl, rfl⟩, ?_⟩
      rw [H.2.2.1 _ _ 108 (upd (mm_0.1 108) 0 0)]
      conv => whnf
      rw [H.1]
      conv => whnf
      refine ⟨rfl, ?_⟩
      conv => whnf
      refine ⟨fun _ => ?_, fun c => absurd (by decide) c⟩
      conv => whnf
      exact ⟨⟨.boolean, rfl, rfl⟩, rfl, rfl⟩
      all_goals rfl
set_option maxRecDepth 100000 in
set_option maxHeartbeats 4000000 in
theorem pk_47 (H : mm_L ac lo hp) : ∀ (p0 : Int32) (p1 : Int32) (p2 : Int32), la_TJ ac lo ad as b L xs hp (fun M => M = mm_0) (fun _ => True) nm_L_entry nm_X12_entry [.int p0, .int p1, .int p2] := by
  intro p0 p1 p2
  intro M z hM
  have hM : M = mm_0 := hM
  subst hM
  refine ⟨1, 0, mm_0, (mm_i mm_0 108 (upd (mm_0.1 108) 0 1)), ?_, fun z => ?_, rfl, fun h => absurd h (by decide), trivial⟩
  ·
    refine ⟨rfl, Nat.le_of_ble_eq_true rfl, Nat.le_of_ble_eq_true rfl, fun X hX => xm_run hX 1000 _ _ _ _ _ _ ?_⟩
    conv => whnf
    refine ⟨xw_O (by rw [H.1]; rfl), xw_thr (hp := hp) (M := mm_0) "java/util/NoSuchElementException" (Nat.le_of_ble_eq_true rfl) (Nat.le_of_ble_eq_true rfl) (Nat.le_of_ble_eq_true rfl) (show xm_M xp ac lo xp_fty xp_dfl (xp_sv ad as (b, L, xs)) 999 nm_X11_entry [.ref (lo + 0), .int p0, .int p1, .int p2] (hp mm_0 z) 1 6 (fun r h => r = .inr "java/util/NoSuchElementException" ∧ ∃ z, h = hp mm_0 z) from by
        refine ⟨rfl, Nat.le_of_ble_eq_true rfl, Nat.le_of_ble_eq_true rfl, fun X hX => xm_run hX 100000 _ _ _ _ _ _ ?_⟩
        conv => whnf
        rw [H.1]
        conv => whnf
        refine ⟨rfl, ?_⟩
        conv => whnf
        rw [H.1]
        conv => whnf
        refine ⟨rfl, ?_⟩
        conv => whnf
        refine ⟨Nat.le_of_ble_eq_true rfl, ?_⟩
        conv => whnf
        rw [H.1]
        conv => whnf
        refine ⟨rfl, ?_⟩
        conv => whnf
        rw [H.1]
        conv => whnf
        refine ⟨rfl, ?_⟩
        conv => whnf
        refine ⟨fun _ => ?_, fun c => absurd (by decide) c⟩
        conv => whnf
        exact ⟨rfl, by decide, Nat.le_of_ble_eq_true rfl, Nat.le_of_ble_eq_true rfl, Nat.le_of_ble_eq_true rfl, fun z9 _ => ⟨rfl, z9, H.2.2.2.2 _ _ _⟩⟩
        all_goals rfl
        ) (fun z => ?_)⟩
    refine xw_hd (hh := (0, 11, 14, 25, "java/util/NoSuchElementException") :: []) rfl (by
      intro e he
      simp only [List.mem_cons, List.not_mem_nil, or_false] at he
      subst he
      exact Or.inl rfl
      ) (by decide +kernel : xm_hd 7 "java/util/NoSuchElementException" [(0, 11, 14, 25, "java/util/NoSuchElementException")] = some 14) (fun q => ?_)
    conv => whnf
    refine ⟨Nat.le_of_ble_eq_true rfl, ?_⟩
    conv => whnf
    exact ⟨⟨.int, rfl, rfl⟩, rfl, _, rfl⟩
  ·
    refine ⟨rfl, Nat.le_of_ble_eq_true rfl, Nat.le_of_ble_eq_true rfl, fun X hX => xm_run hX 100000 _ _ _ _ _ _ ?_⟩
    conv => whnf
    rw [H.1]
    conv => whnf
    refine ⟨rfl, ?_⟩
    conv => whnf
    refine ⟨fun _ => ?_, fun c => absurd (by decide) c⟩
    conv => whnf
    refine ⟨Nat.le_of_ble_eq_true rfl, ?_⟩
    conv => whnf
    refine ⟨fun _ => ?_, fun c => absurd (by decide) c⟩
    conv => whnf
    refine ⟨xw_O (by rw [H.1]; rfl), xw1 0 0 (Nat.le_of_ble_eq_true rfl) (Nat.zero_le _) (Nat.zero_le _) (show xm_M xp ac lo xp_fty xp_dfl (xp_sv ad as (b, L, xs)) 999 nm_X12_tell [.ref (lo + 108), .int 0, .int p2, .int 0] (hp mm_0 z) 0 0 (xq1 (.long 0) (hp (mm_i mm_0 108 (upd (mm_0.1 108) 0 1)) z)) from by
        refine ⟨rfl, Nat.le_of_ble_eq_true rfl, Nat.le_of_ble_eq_true rfl, fun X hX => xm_run hX 100000 _ _ _ _ _ _ ?_⟩
        conv => whnf
        refine ⟨fun _ => ?_, fun c => absurd (by decide) c⟩
        conv => whnf
        rw [H.1]
        conv => whnf
        refine ⟨rfl, Nat.le_add_right _ _, Nat.le_of_ble_eq_true rfl, ⟨rfl, rfl⟩, ?_⟩
        rw [H.2.2.1 _ _ 108 (upd (mm_0.1 108) 0 1)]
        conv => whnf
        rw [H.1]
        conv => whnf
        refine ⟨rfl, ?_⟩
        conv => whnf
        refine ⟨fun c => absurd c (by decide), fun _ => ?_⟩
        conv => whnf
        exact ⟨rfl, rfl, rfl⟩
        all_goals rfl
        ) ?_⟩
    conv => whnf
    exact ⟨rfl, rfl, rfl⟩
    all_goals rfl
set_option maxRecDepth 100000 in
set_option maxHeartbeats 4000000 in
theorem pk_48 (H : mm_L ac lo hp) : ∀ (p0 : Int32), la_TJ ac lo ad as b L xs hp (fun M => M = mm_0) (fun _ => True) nm_L_purity nm_X12_purity [.int p0] := by
  intro p0
  intro M z hM
  have hM : M = mm_0 := hM
  subst hM
  refine ⟨1, 0, mm_0, (mm_i mm_0 108 (upd (mm_0.1 108) 0 1)), ?_, fun z => ?_, rfl, fun h => absurd h (by decide), trivial⟩
  ·
    refine ⟨rfl, Nat.le_of_ble_eq_true rfl, Nat.le_of_ble_eq_true rfl, fun X hX => xm_run hX 1000 _ _ _ _ _ _ ?_⟩
    conv => whnf
    refine ⟨xw_O (by rw [H.1]; rfl), xw_thr (hp := hp) (M := mm_0) "java/util/NoSuchElementException" (Nat.le_of_ble_eq_true rfl) (Nat.le_of_ble_eq_true rfl) (Nat.le_of_ble_eq_true rfl) (show xm_M xp ac lo xp_fty xp_dfl (xp_sv ad as (b, L, xs)) 999 nm_X11_purity [.ref (lo + 0), .int p0] (hp mm_0 z) 1 6 (fun r h => r = .inr "java/util/NoSuchElementException" ∧ ∃ z, h = hp mm_0 z) from by
        refine ⟨rfl, Nat.le_of_ble_eq_true rfl, Nat.le_of_ble_eq_true rfl, fun X hX => xm_run hX 100000 _ _ _ _ _ _ ?_⟩
        conv => whnf
        rw [H.1]
        conv => whnf
        refine ⟨rfl, ?_⟩
        conv => whnf
        rw [H.1]
        conv => whnf
        refine ⟨rfl, ?_⟩
        conv => whnf
        refine ⟨fun _ => ?_, fun c => absurd (by decide) c⟩
        conv => whnf
        exact ⟨rfl, by decide, Nat.le_of_ble_eq_true rfl, Nat.le_of_ble_eq_true rfl, Nat.le_of_ble_eq_true rfl, fun z9 _ => ⟨rfl, z9, H.2.2.2.2 _ _ _⟩⟩
        all_goals rfl
        ) (fun z => ?_)⟩
    refine xw_hd (hh := (0, 8, 11, 25, "java/util/NoSuchElementException") :: [(0, 8, 14, 55, "java/lang/ArithmeticException")]) rfl (by
      intro e he
      simp only [List.mem_cons, List.not_mem_nil, or_false] at he
      rcases he with rfl | rfl
      · exact Or.inl rfl
      · exact Or.inr (show ("java/util/NoSuchElementException", "java/lang/ArithmeticException") ∈ xp_pr by decide)
      ) (by decide +kernel : xm_hd 4 "java/util/NoSuchElementException" [(0, 8, 11, 25, "java/util/NoSuchElementException"), (0, 8, 14, 55, "java/lang/ArithmeticException")] = some 11) (fun q => ?_)
    conv => whnf
    refine ⟨Nat.le_of_ble_eq_true rfl, ?_⟩
    conv => whnf
    exact ⟨⟨.int, rfl, rfl⟩, rfl, _, rfl⟩
  ·
    refine ⟨rfl, Nat.le_of_ble_eq_true rfl, Nat.le_of_ble_eq_true rfl, fun X hX => xm_run hX 100000 _ _ _ _ _ _ ?_⟩
    conv => whnf
    rw [H.1]
    conv => whnf
    refine ⟨rfl, ?_⟩
    conv => whnf
    refine ⟨fun _ => ?_, fun c => absurd (by decide) c⟩
    conv => whnf
    refine ⟨xw_O (by rw [H.1]; rfl), xw1 0 0 (Nat.le_of_ble_eq_true rfl) (Nat.zero_le _) (Nat.zero_le _) (show xm_M xp ac lo xp_fty xp_dfl (xp_sv ad as (b, L, xs)) 999 nm_X12_raise [.ref (lo + 108), .int 1] (hp mm_0 z) 0 0 (xq1 (.int 0) (hp (mm_i mm_0 108 (upd (mm_0.1 108) 0 1)) z)) from by
        refine ⟨rfl, Nat.le_of_ble_eq_true rfl, Nat.le_of_ble_eq_true rfl, fun X hX => xm_run hX 100000 _ _ _ _ _ _ ?_⟩
        conv => whnf
        rw [H.1]
        conv => whnf
        refine ⟨rfl, Nat.le_add_right _ _, Nat.le_of_ble_eq_true rfl, ⟨rfl, rfl⟩, ?_⟩
        rw [H.2.2.1 _ _ 108 (upd (mm_0.1 108) 0 1)]
        conv => whnf
        exact ⟨⟨.int, rfl, rfl⟩, rfl, rfl⟩
        all_goals rfl
        ) ?_⟩
    conv => whnf
    exact ⟨rfl, rfl, rfl⟩
    all_goals rfl
set_option maxRecDepth 100000 in
set_option maxHeartbeats 4000000 in
theorem pk_49 (H : mm_L ac lo hp) : ∀ (p0 : Int32) (p1 : Int32) (p2 : Int32) (p3 : Int32), la_I ac lo ad as b L xs hp (fun M => M = mm_0) (fun _ => True) nm_X11_turn nm_X12_turn [.int p0, .int p1, .int p2, .int p3] := by
  intro p0 p1 p2 p3
  intro M z hM
  have hM : M = mm_0 := hM
  subst hM
  by_cases c0 : p0 < 0
  ·
    refine ⟨(-1), mm_0, (mm_i mm_0 108 (upd (mm_0.1 108) 0 0)), ?_, ?_, trivial⟩
    ·
      refine ⟨rfl, Nat.le_of_ble_eq_true rfl, Nat.le_of_ble_eq_true rfl, fun X hX => xm_run hX 100000 _ _ _ _ _ _ ?_⟩
      conv => whnf
      rw [H.1]
      conv => whnf
      refine ⟨rfl, ?_⟩
      conv => whnf
      refine ⟨xw_O (by rw [H.1]; rfl), xw1 0 0 (Nat.le_of_ble_eq_true rfl) (Nat.zero_le _) (Nat.zero_le _) (show xm_M xp ac lo xp_fty xp_dfl (xp_sv ad as (b, L, xs)) 999 nm_X0_has [.ref (lo + 9), .int p0] (hp mm_0 z) 0 0 (xq1 (.int 0) (hp mm_0 z)) from by
          refine ⟨rfl, Nat.le_of_ble_eq_true rfl, Nat.le_of_ble_eq_true rfl, fun X hX => xm_run hX 100000 _ _ _ _ _ _ ?_⟩
          conv => whnf
          refine ⟨fun _ => ?_, fun c => absurd c0 c⟩
          conv => whnf
          exact ⟨⟨.boolean, rfl, rfl⟩, rfl, rfl⟩
          all_goals rfl
          ) ?_⟩
      conv => whnf
      refine ⟨fun _ => ?_, fun c => absurd (by decide) c⟩
      conv => whnf
      exact ⟨⟨.int, rfl, rfl⟩, rfl, rfl⟩
      all_goals rfl
    ·
      refine ⟨rfl, Nat.le_of_ble_eq_true rfl, Nat.le_of_ble_eq_true rfl, fun X hX => xm_run hX 100000 _ _ _ _ _ _ ?_⟩
      conv => whnf
      rw [H.1]
      conv => whnf
      refine ⟨rfl, Nat.le_add_right _ _, Nat.le_of_ble_eq_true rfl, ⟨rfl, rfl⟩, ?_⟩
      rw [H.2.2.1 _ _ 108 (upd (mm_0.1 108) 0 0)]
      conv => whnf
      refine ⟨xw_O (by rw [H.1]; rfl), xw1 0 0 (Nat.le_of_ble_eq_true rfl) (Nat.zero_le _) (Nat.zero_le _) (show xm_M xp ac lo xp_fty xp_dfl (xp_sv ad as (b, L, xs)) 999 nm_X12_isCircuit [.ref (lo + 108), .int p0] (hp (mm_i mm_0 108 (upd (mm_0.1 108) 0 0)) z) 0 0 (xq1 (.int 0) (hp (mm_i mm_0 108 (upd (mm_0.1 108) 0 0)) z)) from by
          refine ⟨rfl, Nat.le_of_ble_eq_true rfl, Nat.le_of_ble_eq_true rfl, fun X hX => xm_run hX 100000 _ _ _ _ _ _ ?_⟩
          conv => whnf
          refine ⟨fun _ => ?_, fun c => absurd c0 c⟩
          conv => whnf
          exact ⟨⟨.boolean, rfl, rfl⟩, rfl, rfl⟩
          all_goals rfl
          ) ?_⟩
      conv => whnf
      refine ⟨fun _ => ?_, fun c => absurd (by decide) c⟩
      conv => whnf
      exact ⟨⟨.int, rfl, rfl⟩, rfl, rfl⟩
      all_goals rfl
  ·
    refine ⟨(-1), mm_0, (mm_i mm_0 108 (upd (mm_0.1 108) 0 0)), ?_, ?_, trivial⟩
    ·
      refine ⟨rfl, Nat.le_of_ble_eq_true rfl, Nat.le_of_ble_eq_true rfl, fun X hX => xm_run hX 100000 _ _ _ _ _ _ ?_⟩
      conv => whnf
      rw [H.1]
      conv => whnf
      refine ⟨rfl, ?_⟩
      conv => whnf
      refine ⟨xw_O (by rw [H.1]; rfl), xw1 0 0 (Nat.le_of_ble_eq_true rfl) (Nat.zero_le _) (Nat.zero_le _) (show xm_M xp ac lo xp_fty xp_dfl (xp_sv ad as (b, L, xs)) 999 nm_X0_has [.ref (lo + 9), .int p0] (hp mm_0 z) 0 0 (xq1 (.int 0) (hp mm_0 z)) from by
          refine ⟨rfl, Nat.le_of_ble_eq_true rfl, Nat.le_of_ble_eq_true rfl, fun X hX => xm_run hX 100000 _ _ _ _ _ _ ?_⟩
          conv => whnf
          refine ⟨fun c => absurd c c0, fun _ => ?_⟩
          conv => whnf
          rw [H.1]
          conv => whnf
          refine ⟨rfl, ?_⟩
          conv => whnf
          refine ⟨fun _ => ?_, fun c => absurd (Int32.not_lt.mp c0) c⟩
          conv => whnf
          exact ⟨⟨.boolean, rfl, rfl⟩, rfl, rfl⟩
          all_goals rfl
          ) ?_⟩
      conv => whnf
      refine ⟨fun _ => ?_, fun c => absurd (by decide) c⟩
      conv => whnf
      exact ⟨⟨.int, rfl, rfl⟩, rfl, rfl⟩
      all_goals rfl
    ·
      refine ⟨rfl, Nat.le_of_ble_eq_true rfl, Nat.le_of_ble_eq_true rfl, fun X hX => xm_run hX 100000 _ _ _ _ _ _ ?_⟩
      conv => whnf
      rw [H.1]
      conv => whnf
      refine ⟨rfl, Nat.le_add_right _ _, Nat.le_of_ble_eq_true rfl, ⟨rfl, rfl⟩, ?_⟩
      rw [H.2.2.1 _ _ 108 (upd (mm_0.1 108) 0 0)]
      conv => whnf
      refine ⟨xw_O (by rw [H.1]; rfl), xw1 0 0 (Nat.le_of_ble_eq_true rfl) (Nat.zero_le _) (Nat.zero_le _) (show xm_M xp ac lo xp_fty xp_dfl (xp_sv ad as (b, L, xs)) 999 nm_X12_isCircuit [.ref (lo + 108), .int p0] (hp (mm_i mm_0 108 (upd (mm_0.1 108) 0 0)) z) 0 0 (xq1 (.int 0) (hp (mm_i mm_0 108 (upd (mm_0.1 108) 0 0)) z)) from by
          refine ⟨rfl, Nat.le_of_ble_eq_true rfl, Nat.le_of_ble_eq_true rfl, fun X hX => xm_run hX 100000 _ _ _ _ _ _ ?_⟩
          conv => whnf
          refine ⟨fun c => absurd c c0, fun _ => ?_⟩
          conv => whnf
          rw [H.1]
          conv => whnf
          refine ⟨rfl, ?_⟩
          conv => whnf
          refine ⟨fun _ => ?_, fun c => absurd (Int32.not_lt.mp c0) c⟩
          conv => whnf
          exact ⟨⟨.boolean, rfl, rfl⟩, rfl, rfl⟩
          all_goals rfl
          ) ?_⟩
      conv => whnf
      refine ⟨fun _ => ?_, fun c => absurd (by decide) c⟩
      conv => whnf
      exact ⟨⟨.int, rfl, rfl⟩, rfl, rfl⟩
      all_goals rfl
set_option maxRecDepth 100000 in
set_option maxHeartbeats 4000000 in
theorem pk_51 (H : mm_L ac lo hp) : ∀ (p0 : Int32) (p1 : Int32), la_I ac lo ad as b L xs hp (fun M => M = mm_0) (fun _ => True) nm_X11_tensor nm_X12_tensor [.int p0, .int p1] := by
  intro p0 p1
  intro M z hM
  have hM : M = mm_0 := hM
  subst hM
  by_cases c0 : p0 < 0
  ·
    refine ⟨0, mm_0, (mm_i mm_0 108 (upd (mm_0.1 108) 0 0)), ?_, ?_, trivial⟩
    ·
      refine ⟨rfl, Nat.le_of_ble_eq_true rfl, Nat.le_of_ble_eq_true rfl, fun X hX => xm_run hX 100000 _ _ _ _ _ _ ?_⟩
      conv => whnf
      refine ⟨fun _ => ?_, fun c => absurd c0 c⟩
      conv => whnf
      exact ⟨⟨.boolean, rfl, rfl⟩, rfl, rfl⟩
      all_goals rfl
    ·
      refine ⟨rfl, Nat.le_of_ble_eq_true rfl, Nat.le_of_ble_eq_true rfl, fun X hX => xm_run hX 100000 _ _ _ _ _ _ ?_⟩
      conv => whnf
      rw [H.1]
      conv => whnf
      refine ⟨rfl, Nat.le_add_right _ _, Nat.le_of_ble_eq_true rfl, ⟨rfl, rfl⟩, ?_⟩
      rw [H.2.2.1 _ _ 108 (upd (mm_0.1 108) 0 0)]
      conv => whnf
      refine ⟨fun _ => ?_, fun c => absurd c0 c⟩
      conv => whnf
      exact ⟨⟨.boolean, rfl, rfl⟩, rfl, rfl⟩
      all_goals rfl
  ·
    by_cases c1 : 8 < p0
    ·
      refine ⟨0, mm_0, (mm_i mm_0 108 (upd (mm_0.1 108) 0 0)), ?_, ?_, trivial⟩
      ·
        refine ⟨rfl, Nat.le_of_ble_eq_true rfl, Nat.le_of_ble_eq_true rfl, fun X hX => xm_run hX 100000 _ _ _ _ _ _ ?_⟩
        conv => whnf
        refine ⟨fun c => absurd c c0, fun _ => ?_⟩
        conv => whnf
        refine ⟨fun _ => ?_, fun c => absurd c1 c⟩
        conv => whnf
        exact ⟨⟨.boolean, rfl, rfl⟩, rfl, rfl⟩
        all_goals rfl
      ·
        refine ⟨rfl, Nat.le_of_ble_eq_true rfl, Nat.le_of_ble_eq_true rfl, fun X hX => xm_run hX 100000 _ _ _ _ _ _ ?_⟩
        conv => whnf
        rw [H.1]
        conv => whnf
        refine ⟨rfl, Nat.le_add_right _ _, Nat.le_of_ble_eq_true rfl, ⟨rfl, rfl⟩, ?_⟩
        rw [H.2.2.1 _ _ 108 (upd (mm_0.1 108) 0 0)]
        conv => whnf
        refine ⟨fun c => absurd c c0, fun _ => ?_⟩
        conv => whnf
        refine ⟨fun _ => ?_, fun c => absurd c1 c⟩
        conv => whnf
        exact ⟨⟨.boolean, rfl, rfl⟩, rfl, rfl⟩
        all_goals rfl
    ·
      by_cases c2 : p1 < 0
      ·
        refine ⟨0, mm_0, (mm_i mm_0 108 (upd (mm_0.1 108) 0 0)), ?_, ?_, trivial⟩
        ·
          refine ⟨rfl, Nat.le_of_ble_eq_true rfl, Nat.le_of_ble_eq_true rfl, fun X hX => xm_run hX 100000 _ _ _ _ _ _ ?_⟩
          conv => whnf
          refine ⟨fun c => absurd c c0, fun _ => ?_⟩
          conv => whnf
          refine ⟨fun c => absurd c c1, fun _ => ?_⟩
          conv => whnf
          refine ⟨fun _ => ?_, fun c => absurd c2 c⟩
          conv => whnf
          exact ⟨⟨.boolean, rfl, rfl⟩, rfl, rfl⟩
          all_goals rfl
        ·
          refine ⟨rfl, Nat.le_of_ble_eq_true rfl, Nat.le_of_ble_eq_true rfl, fun X hX => xm_run hX 100000 _ _ _ _ _ _ ?_⟩
          conv => whnf
          rw [H.1]
          conv => whnf
          refine ⟨rfl, Nat.le_add_right _ _, Nat.le_of_ble_eq_true rfl, ⟨rfl, rfl⟩, ?_⟩
          rw [H.2.2.1 _ _ 108 (upd (mm_0.1 108) 0 0)]
          conv => whnf
          refine ⟨fun c => absurd c c0, fun _ => ?_⟩
          conv => whnf
          refine ⟨fun c => absurd c c1, fun _ => ?_⟩
          conv => whnf
          refine ⟨fun _ => ?_, fun c => absurd c2 c⟩
          conv => whnf
          exact ⟨⟨.boolean, rfl, rfl⟩, rfl, rfl⟩
          all_goals rfl
      ·
        by_cases c3 : 65535 < p1
        ·
          refine ⟨0, mm_0, (mm_i mm_0 108 (upd (mm_0.1 108) 0 0)), ?_, ?_, trivial⟩
          ·
            refine ⟨rfl, Nat.le_of_ble_eq_true rfl, Nat.le_of_ble_eq_true rfl, fun X hX => xm_run hX 100000 _ _ _ _ _ _ ?_⟩
            conv => whnf
            refine ⟨fun c => absurd c c0, fun _ => ?_⟩
            conv => whnf
            refine ⟨fun c => absurd c c1, fun _ => ?_⟩
            conv => whnf
            refine ⟨fun c => absurd c c2, fun _ => ?_⟩
            conv => whnf
            refine ⟨fun c => absurd c (Int32.not_le.mpr c3), fun _ => ?_⟩
            conv => whnf
            exact ⟨⟨.boolean, rfl, rfl⟩, rfl, rfl⟩
            all_goals rfl
          ·
            refine ⟨rfl, Nat.le_of_ble_eq_true rfl, Nat.le_of_ble_eq_true rfl, fun X hX => xm_run hX 100000 _ _ _ _ _ _ ?_⟩
            conv => whnf
            rw [H.1]
            conv => whnf
            refine ⟨rfl, Nat.le_add_right _ _, Nat.le_of_ble_eq_true rfl, ⟨rfl, rfl⟩, ?_⟩
            rw [H.2.2.1 _ _ 108 (upd (mm_0.1 108) 0 0)]
            conv => whnf
            refine ⟨fun c => absurd c c0, fun _ => ?_⟩
            conv => whnf
            refine ⟨fun c => absurd c c1, fun _ => ?_⟩
            conv => whnf
            refine ⟨fun c => absurd c c2, fun _ => ?_⟩
            conv => whnf
            refine ⟨fun c => absurd c (Int32.not_le.mpr c3), fun _ => ?_⟩
            conv => whnf
            exact ⟨⟨.boolean, rfl, rfl⟩, rfl, rfl⟩
            all_goals rfl
        ·
          refine ⟨1, (mm_i mm_0 71 (upd (mm_0.1 71) (p0 : Int32).toNatClampNeg p1)), (mm_i (mm_i (mm_i mm_0 71 (upd (mm_0.1 71) (p0 : Int32).toNatClampNeg p1)) 108 (upd (mm_0.1 108) 0 0)) 166 (upd (mm_0.1 166) (p0 : Int32).toNatClampNeg p1)), ?_, ?_, trivial⟩
          ·
            refine ⟨rfl, Nat.le_of_ble_eq_true rfl, Nat.le_of_ble_eq_true rfl, fun X hX => xm_run hX 100000 _ _ _ _ _ _ ?_⟩
            conv => whnf
            refine ⟨fun c => absurd c c0, fun _ => ?_⟩
            conv => whnf
            refine ⟨fun c => absurd c c1, fun _ => ?_⟩
            conv => whnf
            refine ⟨fun c => absurd c c2, fun _ => ?_⟩
            conv => whnf
            refine ⟨fun _ => ?_, fun c => absurd (Int32.not_lt.mp c3) c⟩
            conv => whnf
            rw [H.1]
            conv => whnf
            refine ⟨rfl, ?_⟩
            conv => whnf
            rw [H.1]
            conv => whnf
            refine ⟨rfl, ?_⟩
            conv => whnf
            rw [H.1]
            conv => whnf
            refine ⟨rfl, (pq_in c0 c1 (by decide)), Nat.le_add_right _ _, ?_⟩
            rw [H.2.2.1 _ _ 71 (upd (mm_0.1 71) (p0 : Int32).toNatClampNeg p1)]
            conv => whnf
            exact ⟨⟨.boolean, rfl, rfl⟩, rfl, rfl⟩
            all_goals rfl
          ·
            refine ⟨rfl, Nat.le_of_ble_eq_true rfl, Nat.le_of_ble_eq_true rfl, fun X hX => xm_run hX 100000 _ _ _ _ _ _ ?_⟩
            conv => whnf
            rw [H.1]
            conv => whnf
            refine ⟨rfl, Nat.le_add_right _ _, Nat.le_of_ble_eq_true rfl, ⟨rfl, rfl⟩, ?_⟩
            rw [H.2.2.1 _ _ 108 (upd (mm_0.1 108) 0 0)]
            conv => whnf
            refine ⟨fun c => absurd c c0, fun _ => ?_⟩
            conv => whnf
            refine ⟨fun c => absurd c c1, fun _ => ?_⟩
            conv => whnf
            refine ⟨fun c => absurd c c2, fun _ => ?_⟩
            conv => whnf
            refine ⟨fun _ => ?_, fun c => absurd (Int32.not_lt.mp c3) c⟩
            conv => whnf
            rw [H.1]
            conv => whnf
            refine ⟨rfl, ?_⟩
            conv => whnf
            rw [H.1]
            conv => whnf
            refine ⟨rfl, (pq_in c0 c1 (by decide)), Nat.le_add_right _ _, ?_⟩
            rw [H.2.2.1 _ _ 166 (upd (mm_0.1 166) (p0 : Int32).toNatClampNeg p1)]
            conv => whnf
            exact ⟨⟨.boolean, rfl, rfl⟩, rfl, rfl⟩
            all_goals rfl
end PK
