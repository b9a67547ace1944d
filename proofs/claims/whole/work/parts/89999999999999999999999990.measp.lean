/-! measure: the pair -/
section MSP
variable {d n w : Nat} {M : mm_M} {A B Y : Nat → RW}
theorem bit_q (q : Int32) : ∃ b, b < 2 ∧ q &&& 1 = nI b := by
  obtain ⟨m, _, rfl⟩ := nI_any q
  exact ⟨m % 2, Nat.mod_lt _ (by decide), nI_m1 m⟩
set_option maxRecDepth 100000 in
theorem meX_0 {p q : Int32} (h3 : M.1 25 3 = nI n) (h : p < 0 ∨ nI n ≤ p) : am_M (d + 1) false nm_X11_measure [aR 0, aI p, aI q] M (am_q1 (aI (-1)) M) := by
  refine ⟨rfl, rfl, rfl, fun X hX => am_run hX 2 _ _ _ _ ?_⟩
  have no : X 15 [some (aR 0), some (aI p), some (aI q)] [] M := by
    refine am_run hX 3 _ _ _ _ ?_
    conv => whnf
    exact ⟨trivial, rfl, rfl⟩
  conv => whnf
  refine ⟨fun _ => no, fun c => ?_⟩
  have h := h.resolve_left c
  refine am_run hX 5 _ _ _ _ ?_
  conv => whnf
  rw [h3]
  exact ⟨fun z => absurd h (Int32.not_le.mpr z), fun _ => no⟩
set_option maxRecDepth 100000 in
theorem meX_1 {b : Nat} {q : Int32} (hq : q &&& 1 = nI b) (hb : b < 2) (n20 : n ≤ 20) (hw : w < n) (h3 : M.1 25 3 = nI n) (hY : ∀ j, j < n → rw_n n (Y j) ∧ rA M j (Y j)) (h4 : M.1 25 4 = 0 ∨ M.1 25 4 = 1 ∧ Y = redR n Y) : am_M (d + 7) false nm_X11_measure [aR 0, aI (nI w), aI q] M (fun t N => (nxb n w Y ∧ t = .inl (some (aI (nI (sgZ n w (redR n Y) n).2))) ∧ (N = M ∧ Y = redR n Y ∨ N = strM M n Y)) ∨ ∃ i, fiR n w Y i ∧ t = .inl (some (aI (nI (b + 2)))) ∧ taF M N ∧ N.1 25 4 = 0 ∧ ∀ j, j < n → rA N j (mzR n w b i mulA Y j)) := by
  refine ⟨rfl, rfl, rfl, fun X hX => am_run hX 2 _ _ _ _ ?_⟩
  conv => whnf
  refine ⟨fun z => absurd z (nI_pos (by omega)), fun _ => ?_⟩
  refine am_run hX 5 _ _ _ _ ?_
  conv => whnf
  rw [h3]
  refine ⟨fun _ => ?_, fun z => absurd (nI_lt hw (by omega)) z⟩
  refine am_run hX 7 _ _ _ _ ?_
  conv => whnf
  rw [hq]
  refine am_cq (ct_obs (d := d) hb n20 hw h3 hY h4) ?_
  rintro t N hE
  have fin : ∀ v, t = .inl (some (aI v)) → X 30 [some (aR 0), some (aI (nI w)), some (aI q)] [aI v] N := fun v hv => by
    subst hv
    refine am_run hX 1 _ _ _ _ ?_
    conv => whnf
    exact ⟨trivial, hE⟩
  rcases hE with ⟨_, e, _⟩ | ⟨_, _, e, _⟩
  · exact ⟨_, e, fin _ e⟩
  · exact ⟨_, e, fin _ e⟩
set_option maxRecDepth 100000 in
theorem meR_0 {p q : Int32} (h81 : M.1 108 81 = nI n) (h : p < 0 ∨ nI n ≤ p) : am_M (d + 1) false nm_X12_measure [aR 108, aI p, aI q] M (am_q1 (aI (-1)) (th0 M)) := by
  refine ⟨rfl, rfl, rfl, fun X hX => am_run hX 5 _ _ _ _ ?_⟩
  have no : X 17 [some (aR 108), some (aI p), some (aI q), none, none, none, none, none] [] (th0 M) := by
    refine am_run hX 2 _ _ _ _ ?_
    conv => whnf
    exact ⟨trivial, rfl, rfl⟩
  conv => whnf
  refine ⟨fun _ => no, fun c => ?_⟩
  have h := h.resolve_left c
  refine am_run hX 4 _ _ _ _ ?_
  conv => whnf
  rw [show (mm_i M 108 (upd (M.1 108) 0 0)).1 108 81 = nI n from h81]
  exact ⟨fun z => absurd h (Int32.not_le.mpr z), fun _ => no⟩
set_option maxRecDepth 100000 in
theorem meR_1 {b : Nat} {q : Int32} (hq : q &&& 1 = nI b) (hb : b < 2) (n20 : n ≤ 20) (hw : w < n) (h81 : M.1 108 81 = nI n) (hY : ∀ j, j < n → rw_n n (Y j) ∧ rB M j (Y j)) (cY : allc n Y) : am_M (d + 4) false nm_X12_measure [aR 108, aI (nI w), aI q] M (fun t N => (nxb n w Y ∧ t = .inl (some (aI (nI (sgZ n w (redR n Y) n).2))) ∧ N = gB (th0 M) (redR n Y) n) ∨ ∃ i, fiR n w Y i ∧ t = .inl (some (aI (nI (b + 2)))) ∧ trF (th0 M) N ∧ ∀ j, j < n → rB N j (mzR n w b i mulA Y j)) := by
  refine ⟨rfl, rfl, rfl, fun X hX => am_run hX 5 _ _ _ _ ?_⟩
  conv => whnf
  refine ⟨fun z => absurd z (nI_pos (by omega)), fun _ => ?_⟩
  show X 9 _ _ (th0 M)
  have h81' : (th0 M).1 108 81 = nI n := h81
  refine am_run hX 4 _ _ _ _ ?_
  conv => whnf
  rw [h81']
  refine ⟨fun _ => ?_, fun z => absurd (nI_lt hw (by omega)) z⟩
  refine am_run hX 2 _ _ _ _ ?_
  conv => whnf
  rcases fi_or n w Y with nx | ⟨i, hi⟩
  · refine mr_s (M := th0 M) (i := n) hX n20 hw h81' hY (Or.inl ⟨rfl, nx⟩) ?_ n 0 (by omega)
    refine am_run hX 4 _ _ _ _ ?_
    conv => whnf
    rw [h81']
    refine ⟨fun _ => ?_, fun c => absurd (nI_le (by omega) (by omega)) c⟩
    have key := ct_rr (e := d) (M := th0 M) (Y := Y) (n := n) h81' n20 (fun j hj => (hY j hj).1) cY
    rw [gB_self (M := th0 M) (fun j hj => (hY j hj).2)] at key
    refine am_run hX 2 _ _ _ _ ?_
    conv => whnf
    refine am_c0 key ?_
    conv => whnf
    refine am_run hX 8 _ _ _ _ ?_
    conv => whnf
    rw [sh2 w (by omega)]
    exact mr_z (d := d + 2) (M := gB (th0 M) (redR n Y) n) (Y := redR n Y) hX n20 hw h81' (fun j hj => ⟨rd_n' (fun j hj => (hY j hj).1) hj, gB_row (M := th0 M) (Y := redR n Y) hj⟩) (Or.inl ⟨nx, rfl, rfl⟩) n 0 _ (by omega)
  · have il := hi.1
    refine mr_s (M := th0 M) (i := i) hX n20 hw h81' hY (Or.inr hi) ?_ i 0 (by omega)
    refine am_run hX 4 _ _ _ _ ?_
    conv => whnf
    rw [h81']
    refine ⟨fun c => absurd c (nI_ge il (by omega)), fun _ => ?_⟩
    refine am_run hX 2 _ _ _ _ ?_
    conv => whnf
    refine mr_m (d := d + 1) (M := th0 M) hX n20 hw h81' (fun j hj => (hY j hj).1) cY hi (fun N f1 r1 => ?_) n 0 (th0 M) (by omega) (trF_r _) (fun j hj => ?_)
    · have hI : vp_in (nI i) 20 := vp_in_nI (by omega) (by decide)
      refine am_run hX 5 _ _ _ _ ?_
      conv => whnf
      refine ⟨hI, ?_⟩
      conv => whnf
      refine am_run hX 7 _ _ _ _ ?_
      conv => whnf
      rw [sh2 w (by omega)]
      refine ⟨hI, ?_⟩
      conv => whnf
      refine am_run hX 7 _ _ _ _ ?_
      conv => whnf
      rw [hq]
      refine ⟨hI, ?_⟩
      conv => whnf
      refine am_run hX 6 _ _ _ _ ?_
      conv => whnf
      rw [hq, nI_clamp (n := i) (by omega), show (2 : Int32) = nI 2 from rfl, nI_add, Nat.add_comm 2 b]
      refine ⟨trivial, Or.inr ⟨i, hi, rfl, trF_t f1 ⟨fun k hk => ?_, rfl⟩, fun j hj => ?_⟩⟩
      · simp [mm_i, show k ≠ 157 by omega, show k ≠ 158 by omega, show k ≠ 159 by omega]
      · by_cases e : j = i
        · subst e
          rw [show mzR n w b j mulA Y j = (0, 2 ^ w, b) from if_pos rfl]
          exact ⟨if_pos rfl, if_pos rfl, if_pos rfl⟩
        · rw [mz_e j hj e]
          obtain ⟨s1, s2, s3⟩ := r1 j hj
          exact ⟨(if_neg e).trans s1, (if_neg e).trans s2, (if_neg e).trans s3⟩
    · have e : mzK w i 0 mulA Y j = Y j := if_neg (by omega)
      rw [e]
      exact (hY j hj).2
end MSP
section MSQ
variable {ac : Nat → ClassId} {lo : Nat} {ad as : Nat → Nat} {b L : Nat} {xs : Nat → Int32} {hp : mm_M → Nat → xm_H} {I J : mm_M → Prop}
theorem pr_measure (H : mm_L ac lo hp) (h1 : ∀ M, I M → ∃ n A B, tb_g M n A B) (hJ0 : ∀ M, I M → J (th0 M)) (hJ : ∀ M N M' n A B A', I M → tb_g M n A B → (A' = A ∧ N = M ∨ A' = redR n A ∧ N = strM M n A) → M' = gB (th0 N) (redR n B) n → tb_g M' n A' (redR n B) → J M') (hJ2 : ∀ M N M' n A B w v i i', I M → tb_g M n A B → w < n → v < 2 → fiR n w A i → fiR n w B i' → taF M N → N.1 25 4 = 0 → (∀ j, j < n → rA N j (mzR n w v i mulA A j)) → trF (th0 N) M' → (∀ j, j < n → rB M' j (mzR n w v i' mulA B j)) → J M') (p q : Int32) : la_I ac lo ad as b L xs hp I J nm_X11_measure nm_X12_measure [.int p, .int q] := by
  refine am_la_I (us := [aI p, aI q]) H fun M hI => ?_
  obtain ⟨n, A, B, h⟩ := h1 M hI
  have n20 := h.1
  obtain ⟨v, hv, eq⟩ := bit_q q
  rcases bk_no (p := p) n20 with z | ⟨w, hw, rfl⟩
  · refine am_wk (meX_0 (d := 999) h.2.1 z) fun t M1 e => ⟨_, e.1, ?_⟩
    rw [e.2]
    exact am_wk (meR_0 (d := 999) h.2.2.1 z) fun t M2 e => ⟨e.1, by rw [e.2]; exact hJ0 M hI⟩
  · have nn : nxb n w A ↔ nxb n w B := by
      rw [← nx_red (Y := A), ← nx_red (Y := B), h.2.2.2.2.2.2.1]
    have nf : ∀ {Y : Nat → RW} {i : Nat}, fiR n w Y i → ¬ nxb n w Y := fun f g => by
      have := g _ f.1
      rw [f.2.1] at this
      exact absurd this (by decide)
    refine am_wk (meX_1 (d := 993) eq hv n20 hw h.2.1 (fun j hj => ⟨(h.2.2.2.1 j hj).1, (h.2.2.2.1 j hj).2.2.1⟩) h.2.2.2.2.2.2.2) ?_
    rintro t M1 (⟨nx, rfl, hN⟩ | ⟨i, fi, rfl, f1, f2, f3⟩)
    · have fin : ∀ A', (A' = A ∧ M1 = M ∨ A' = redR n A ∧ M1 = strM M n A) → tb_g M1 n A' B → am_M 1000 false nm_X12_measure [aR 108, aI (nI w), aI q] M1 (fun r M2 => r = .inl (some (aI (nI (sgZ n w (redR n A) n).2))) ∧ J M2) := fun A' hA g => by
        refine am_wk (meR_1 (d := 996) eq hv n20 hw g.2.2.1 (fun j hj => ⟨(g.2.2.2.1 j hj).2.1, (g.2.2.2.1 j hj).2.2.2⟩) g.2.2.2.2.2.1) ?_
        rintro t M2 (⟨_, rfl, rfl⟩ | ⟨i', fi', _⟩)
        · exact ⟨by rw [h.2.2.2.2.2.2.1], hJ M M1 _ n A B A' hI h hA rfl (tb_rr (tb_th g))⟩
        · exact absurd (nn.mp nx) (nf fi')
      refine ⟨_, rfl, ?_⟩
      rcases hN with ⟨rfl, _⟩ | rfl
      · exact fin A (Or.inl ⟨rfl, rfl⟩) h
      · exact fin (redR n A) (Or.inr ⟨rfl, rfl⟩) (tb_st h)
    · have g81 : M1.1 108 81 = nI n := by
        rw [f1.1 108 (by decide)]
        exact h.2.2.1
      have gB' : ∀ j, j < n → rw_n n (B j) ∧ rB M1 j (B j) := fun j hj => by
        refine ⟨(h.2.2.2.1 j hj).2.1, ?_⟩
        unfold rB
        rw [f1.1 157 (by decide), f1.1 158 (by decide), f1.1 159 (by decide)]
        exact (h.2.2.2.1 j hj).2.2.2
      refine ⟨_, rfl, am_wk (meR_1 (d := 996) eq hv n20 hw g81 gB' h.2.2.2.2.2.1) ?_⟩
      rintro t M2 (⟨nx, _⟩ | ⟨i', fi', rfl, g1, g2⟩)
      · exact absurd (nn.mpr nx) (nf fi)
      · exact ⟨rfl, hJ2 M M1 M2 n A B w v i i' hI h hw hv fi fi' f1 f2 f3 g1 g2⟩
end MSQ
