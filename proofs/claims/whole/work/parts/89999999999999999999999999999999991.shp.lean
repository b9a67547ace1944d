/-! SHORTEST: the class's four PAULIS: their turns -/
def r4f (M : mm_M) (r : Nat) (y : RW) : Prop := M.1 59 r = nI y.1 ∧ M.1 60 r = nI y.2.1 ∧ M.1 61 r = nI y.2.2
def w4f (M : mm_M) (r : Nat) (y : RW) : mm_M := mm_i (mm_i (mm_i M 59 (upd (M.1 59) r (nI y.1))) 60 (upd (M.1 60) r (nI y.2.1))) 61 (upd (M.1 61) r (nI y.2.2))
section SHP
variable {d : Nat} {M : mm_M}
theorem w4_of {N : mm_M} {r : Nat} {y : RW} (h2 : N.2 = M.2) (h6 : N.1 59 = upd (M.1 59) r (nI y.1)) (h7 : N.1 60 = upd (M.1 60) r (nI y.2.1)) (h8 : N.1 61 = upd (M.1 61) r (nI y.2.2)) (hk : ∀ k, k ≠ 59 → k ≠ 60 → k ≠ 61 → N.1 k = M.1 k) : N = w4f M r y := by
  refine Prod.ext (funext fun k => ?_) h2
  by_cases k6 : k = 59
  · subst k6; rw [h6]; simp [w4f, mm_i]
  · by_cases k7 : k = 60
    · subst k7; rw [h7]; simp [w4f, mm_i]
    · by_cases k8 : k = 61
      · subst k8; rw [h8]; simp [w4f, mm_i]
      · rw [hk k k6 k7 k8]; simp [w4f, mm_i, k6, k7, k8]
set_option maxRecDepth 100000 in
theorem ct_tS58 {r a : Nat} {y : RW} (hr : r < 4) (ha : a < 20) (h : r4f M r y) (hy : rw_ok y) : am_M (d + 1) false nm_X8_turnByS [aR 58, aI (nI r), aI (nI a)] M (am_q0 (w4f M r (nS a y))) := by
  obtain ⟨h6, h7, h8⟩ := h
  obtain ⟨y1, y2, y3⟩ := hy
  refine ⟨rfl, rfl, rfl, fun X hX => am_run hX 60 _ _ _ _ ?_⟩
  conv => whnf
  iterate 7
    refine ⟨vp_in_nI (by show r < 4; omega) (by decide), ?_⟩
    conv => whnf
  refine ⟨trivial, rfl, ?_⟩
  rw [nI_clamp (n := r) (by omega), mm_ne _ 61 60 _ (by decide), mm_ne _ 61 59 _ (by decide), h6, h7, h8, nI_and, nI_bt (and20 y1) ha, nI_xor, sh2 a (by omega), nI_and, nI_xor]
  exact w4_of rfl (by simp only [nS, mm_i]; exact (upd_eq h6).symm) (by simp [nS, mm_i]) (by simp [nS, mm_i]) (fun k k6 k7 k8 => by simp [mm_i, k7, k8])
set_option maxRecDepth 100000 in
theorem ct_tH58 {r a : Nat} {y : RW} (hr : r < 4) (ha : a < 20) (h : r4f M r y) (hy : rw_ok y) : am_M (d + 1) false nm_X8_turnByH [aR 58, aI (nI r), aI (nI a)] M (am_q0 (w4f M r (nH a y))) := by
  obtain ⟨h6, h7, h8⟩ := h
  obtain ⟨y1, y2, y3⟩ := hy
  refine ⟨rfl, rfl, rfl, fun X hX => am_run hX 80 _ _ _ _ ?_⟩
  conv => whnf
  iterate 10
    refine ⟨vp_in_nI (by show r < 4; omega) (by decide), ?_⟩
    conv => whnf
  refine ⟨trivial, rfl, ?_⟩
  rw [nI_clamp (n := r) (by omega), mm_ne _ 59 60 _ (by decide), mm_ne _ 61 59 _ (by decide), mm_ne _ 61 60 _ (by decide), h6, h7, h8, nI_and, nI_bt (and20 y1) ha, sh2 a (by omega)]
  simp only [nI_xor, nI_and]
  exact w4_of rfl (by simp [nH, mm_i]) (by simp [nH, mm_i]) (by simp [nH, mm_i]) (fun k k6 k7 k8 => by simp [mm_i, k6, k7, k8])
theorem r4_w {r : Nat} {y : RW} : r4f (w4f M r y) r y := by
  refine ⟨?_, ?_, ?_⟩ <;> simp [w4f, mm_i, upd]
theorem w4_w {r : Nat} {y z : RW} : w4f (w4f M r y) r z = w4f M r z := by
  refine w4_of rfl ?_ ?_ ?_ (fun k k6 k7 k8 => by simp [w4f, mm_i, k6, k7, k8])
  · simp [w4f, mm_i, upd_two]
  · simp [w4f, mm_i, upd_two]
  · simp [w4f, mm_i, upd_two]
set_option maxRecDepth 100000 in
theorem ct_ct2E {r p q : Nat} {y : RW} (hr : r < 4) (hp : p < 20) (hq : q < 20) (h : r4f M r y) (hy : rw_ok y) : am_M (d + 2) false nm_X8_turnByControlled [aR 58, aI 2, aI (nI r), aI (nI p), aI (nI q)] M (am_q0 (w4f M r (nC p q y))) := by
  have hin : vp_in (nI r) 4 := vp_in_nI hr (by decide)
  obtain ⟨h6, h7, h8⟩ := h
  obtain ⟨y1, y2, y3⟩ := hy
  have e1 := upd_eq h6
  refine ⟨rfl, rfl, rfl, fun X hX => am_run hX 120 _ _ _ _ ?_⟩
  conv => whnf
  refine ⟨fun _ => ?_, fun c => absurd (by decide) c⟩
  conv => whnf
  refine ⟨fun _ => ?_, fun c => absurd rfl c⟩
  conv => whnf
  iterate 8
    refine ⟨hin, ?_⟩
    conv => whnf
  refine ⟨fun _ => ?_, fun c => absurd rfl c⟩
  conv => whnf
  refine ⟨fun _ => ?_, fun c => absurd (by decide) c⟩
  conv => whnf
  refine ⟨trivial, rfl, ?_⟩
  rw [nI_clamp (n := r) (by omega), mm_ne _ 61 60 _ (by decide), h6, h7, h8, nI_bt y1 hp, nI_bt y1 hq, nI_sh (by omega) p (by omega), nI_sh (by omega) q (by omega), nI_shl (by omega) (bt_sh hq), nI_shl (by omega) (bt_sh hp)]
  simp only [nI_xor, nI_and, nI_or]
  exact w4_of rfl (by simp [nC, mm_i, e1]) (by simp [nC, mm_i]) (by simp [nC, mm_i]) (fun k k6 k7 k8 => by simp [mm_i, k7, k8])
theorem cz_w4 {N : mm_M} {r p q : Nat} {y : RW} (h6 : N.1 59 r = nI y.1) : mm_i (mm_i N 61 (upd (N.1 61) r (nI (y.2.2 ^^^ (bt y.1 p &&& bt y.1 q &&& (y.2.1 / 2 ^ p ^^^ y.2.1 / 2 ^ q)))))) 60 (upd (N.1 60) r (nI (y.2.1 ^^^ (bt y.1 p * 2 ^ q ||| bt y.1 q * 2 ^ p)))) = w4f N r (nC p q y) := by
  have e1 := upd_eq h6
  exact w4_of rfl (by simp [nC, mm_i, e1]) (by simp [nC, mm_i]) (by simp [nC, mm_i]) (fun k k6 k7 k8 => by simp [mm_i, k7, k8])
set_option maxRecDepth 100000 in
theorem ct_ct0E {r p q : Nat} {y : RW} (hr : r < 4) (hp : p < 20) (hq : q < 20) (h : r4f M r y) (hy : rw_ok y) : am_M (d + 2) false nm_X8_turnByControlled [aR 58, aI 0, aI (nI r), aI (nI p), aI (nI q)] M (am_q0 (w4f M r (nH p (nC p q (nH p y))))) := by
  have hin : vp_in (nI r) 4 := vp_in_nI hr (by decide)
  have ok1 := ok_nH hp hy
  have ok2 := ok_nC hp hq ok1
  obtain ⟨h6, h7, h8⟩ : r4f (w4f M r (nH p y)) r (nH p y) := r4_w
  have e1 := upd_eq h6
  have y1 := ok1.1
  have y2 := ok1.2.1
  refine ⟨rfl, rfl, rfl, fun X hX => am_run hX 120 _ _ _ _ ?_⟩
  conv => whnf
  refine ⟨fun _ => ?_, fun c => absurd (by decide) c⟩
  conv => whnf
  refine ⟨fun c => absurd c (by decide), fun _ => ?_⟩
  conv => whnf
  refine am_c0 (ct_tH58 (d := d) hr hp h hy) ?_
  conv => whnf
  iterate 8
    refine ⟨hin, ?_⟩
    conv => whnf
  refine ⟨fun c => absurd c (by decide), fun _ => ?_⟩
  conv => whnf
  rw [nI_clamp (n := r) (by omega), mm_ne _ 61 60 _ (by decide), h6, h7, h8, nI_bt y1 hp, nI_bt y1 hq, nI_sh (by omega) p (by omega), nI_sh (by omega) q (by omega), nI_shl (by omega) (bt_sh hq), nI_shl (by omega) (bt_sh hp)]
  simp only [nI_xor, nI_and, nI_or]
  rw [cz_w4 h6, w4_w]
  refine am_c0 (ct_tH58 (d := d) hr hp r4_w ok2) ?_
  conv => whnf
  refine ⟨fun _ => ?_, fun c => absurd (by decide) c⟩
  conv => whnf
  exact ⟨trivial, rfl, w4_w⟩
set_option maxRecDepth 100000 in
theorem bE_1 {P : am_Q} {X : am_X} {N : mm_M} {k a i : Nat} {q : am_V} {y : RW} (hX : am_K (d + 2) false nm_X8_turnBy P X) (hk : k < 5) (ha : a < 20) (hi : i < 4) (h : r4f N i y) (hy : rw_ok y) (hK : X 252 [some (aR 58), some (aI (nI k)), some (aI (nI a)), some q, some (aI (nI i))] [] (w4f N i (sg k a y))) : X 17 [some (aR 58), some (aI (nI k)), some (aI (nI a)), some q, some (aI (nI i))] [] N := by
  have hin : vp_in (nI i) 4 := vp_in_nI hi (by decide)
  have hh := h
  obtain ⟨h6, h7, h8⟩ := h
  have y1 := hy.1
  have y2 := hy.2.1
  have e1 := upd_eq h6
  have e2 := upd_eq h7
  rcases (by omega : k = 0 ∨ k = 1 ∨ k = 2 ∨ k = 3 ∨ k = 4) with rfl | rfl | rfl | rfl | rfl
  · refine am_run hX 18 _ _ _ _ ?_
    conv => whnf
    refine ⟨fun _ => ?_, fun c => absurd rfl c⟩
    conv => whnf
    iterate 3
      refine ⟨hin, ?_⟩
      conv => whnf
    rw [nI_clamp (n := i) (by omega), h7, h8, nI_bt y2 ha, nI_xor]
    rw [show mm_i N 61 (upd (N.1 61) i (nI (y.2.2 ^^^ bt y.2.1 a))) = w4f N i (sg 0 a y) from w4_of rfl (by simp [sg, mm_i, e1]) (by simp [sg, mm_i, e2]) (by simp [sg, mm_i]) (fun k k6 k7 k8 => by simp [mm_i, k8])]
    exact hK
  · refine am_run hX 23 _ _ _ _ ?_
    conv => whnf
    refine ⟨fun c => absurd c (by decide), fun _ => ?_⟩
    refine ⟨fun _ => ?_, fun c => absurd rfl c⟩
    conv => whnf
    iterate 4
      refine ⟨hin, ?_⟩
      conv => whnf
    rw [nI_clamp (n := i) (by omega), h6, h7, h8, nI_xor, nI_bt (Nat.xor_lt_two_pow y1 y2) ha, nI_xor, bt_xor]
    rw [show mm_i N 61 (upd (N.1 61) i (nI (y.2.2 ^^^ (bt y.1 a ^^^ bt y.2.1 a)))) = w4f N i (sg 1 a y) from w4_of rfl (by simp [sg, mm_i, e1]) (by simp [sg, mm_i, e2]) (by simp [sg, mm_i]) (fun k k6 k7 k8 => by simp [mm_i, k8])]
    exact hK
  · refine am_run hX 18 _ _ _ _ ?_
    conv => whnf
    refine ⟨fun c => absurd c (by decide), fun _ => ?_⟩
    refine ⟨fun c => absurd c (by decide), fun _ => ?_⟩
    refine ⟨fun _ => ?_, fun c => absurd rfl c⟩
    conv => whnf
    iterate 3
      refine ⟨hin, ?_⟩
      conv => whnf
    rw [nI_clamp (n := i) (by omega), h6, h8, nI_bt y1 ha, nI_xor]
    rw [show mm_i N 61 (upd (N.1 61) i (nI (y.2.2 ^^^ bt y.1 a))) = w4f N i (sg 2 a y) from w4_of rfl (by simp [sg, mm_i, e1]) (by simp [sg, mm_i, e2]) (by simp [sg, mm_i]) (fun k k6 k7 k8 => by simp [mm_i, k8])]
    exact hK
  · refine am_run hX 7 _ _ _ _ ?_
    conv => whnf
    refine ⟨fun c => absurd c (by decide), fun _ => ?_⟩
    refine ⟨fun c => absurd c (by decide), fun _ => ?_⟩
    refine ⟨fun c => absurd c (by decide), fun _ => ?_⟩
    refine ⟨fun _ => ?_, fun c => absurd rfl c⟩
    conv => whnf
    refine am_c0 (ct_tH58 (d := d + 1) hi ha hh hy) ?_
    conv => whnf
    rw [e_H]
    exact hK
  · refine am_run hX 7 _ _ _ _ ?_
    conv => whnf
    refine ⟨fun c => absurd c (by decide), fun _ => ?_⟩
    refine ⟨fun c => absurd c (by decide), fun _ => ?_⟩
    refine ⟨fun c => absurd c (by decide), fun _ => ?_⟩
    refine ⟨fun c => absurd c (by decide), fun _ => ?_⟩
    refine ⟨fun _ => ?_, fun c => absurd rfl c⟩
    conv => whnf
    refine am_c0 (ct_tS58 (d := d + 1) hi ha hh hy) ?_
    conv => whnf
    rw [e_S]
    exact hK
set_option maxRecDepth 100000 in
theorem bE_2 {P : am_Q} {X : am_X} {N : mm_M} {k a b i : Nat} {y : RW} (hX : am_K (d + 2) false nm_X8_turnBy P X) (hk : k = 5 ∨ k = 6 ∨ k = 7) (ha : a < 20) (hb : b < 20) (hab : a ≠ b) (hi : i < 4) (h : r4f N i y) (hy : rw_ok y) (hK : X 252 [some (aR 58), some (aI (nI (gk k))), some (aI (nI b)), some (aI (nI a)), some (aI (nI i))] [] (w4f N i (cpl k a b y))) : X 17 [some (aR 58), some (aI (nI (gk k))), some (aI (nI b)), some (aI (nI a)), some (aI (nI i))] [] N := by
  have hin : vp_in (nI i) 4 := vp_in_nI hi (by decide)
  have hh := h
  obtain ⟨h6, h7, h8⟩ := h
  have y1 := hy.1
  have y2 := hy.2.1
  have e3 := upd_eq h8
  rcases hk with rfl | rfl | rfl
  · refine am_run hX 10 _ _ _ _ ?_
    conv => whnf
    iterate 9
      refine ⟨fun c => absurd c (by decide), fun _ => ?_⟩
    conv => whnf
    refine am_c0 (ct_ct0E (d := d) hi hb ha hh hy) ?_
    conv => whnf
    rw [e_N hab]
    exact hK
  · refine am_run hX 10 _ _ _ _ ?_
    conv => whnf
    iterate 9
      refine ⟨fun c => absurd c (by decide), fun _ => ?_⟩
    conv => whnf
    refine am_c0 (ct_ct2E (d := d) hi hb ha hh hy) ?_
    conv => whnf
    rw [e_Z]
    exact hK
  · refine am_run hX 25 _ _ _ _ ?_
    conv => whnf
    iterate 8
      refine ⟨fun c => absurd c (by decide), fun _ => ?_⟩
    refine ⟨fun _ => ?_, fun c => absurd rfl c⟩
    conv => whnf
    refine ⟨hin, ?_⟩
    conv => whnf
    rw [nI_clamp (n := i) (by omega), h6]
    refine am_c1 (ct_exg (d := d + 1) hb ha y1) ?_
    conv => whnf
    refine ⟨hin, ?_⟩
    conv => whnf
    refine ⟨hin, ?_⟩
    conv => whnf
    rw [nI_clamp (n := i) (by omega), mm_ne _ 59 60 _ (by decide), h7]
    refine am_c1 (ct_exg (d := d + 1) hb ha y2) ?_
    conv => whnf
    refine ⟨hin, ?_⟩
    conv => whnf
    rw [nI_clamp (n := i) (by omega), mm_ne _ 59 60 _ (by decide)]
    rw [show mm_i (mm_i N 59 (upd (N.1 59) i (nI (exg b a y.1)))) 60 (upd (N.1 60) i (nI (exg b a y.2.1))) = w4f N i (cpl 7 a b y) from by
      rw [← e_W]
      exact w4_of rfl (by simp [mm_i]) (by simp [mm_i]) (by simp [mm_i, e3]) (fun k k6 k7 k8 => by simp [mm_i, k6, k7])]
    exact hK
theorem sn_w4 {N : mm_M} {r : Nat} {y : RW} {t : Nat} (h : r4f N r y) : mm_i N 61 (upd (N.1 61) r (nI t)) = w4f N r (y.1, y.2.1, t) := by
  obtain ⟨h6, h7, h8⟩ := h
  have e1 := upd_eq h6
  have e2 := upd_eq h7
  exact w4_of rfl (by simp [mm_i, e1]) (by simp [mm_i, e2]) (by simp [mm_i]) (fun k k6 k7 k8 => by simp [mm_i, k8])
set_option maxRecDepth 100000 in
theorem bE_6 {P : am_Q} {X : am_X} {N : mm_M} {a i : Nat} {q : am_V} {y : RW} (hX : am_K (d + 2) false nm_X8_turnBy P X) (ha : a < 20) (hi : i < 4) (h : r4f N i y) (hy : rw_ok y) (hK : X 252 [some (aR 58), some (aI (nI 6)), some (aI (nI a)), some q, some (aI (nI i))] [] (w4f N i (nX a (nS a y)))) : X 17 [some (aR 58), some (aI (nI 6)), some (aI (nI a)), some q, some (aI (nI i))] [] N := by
  have hin : vp_in (nI i) 4 := vp_in_nI hi (by decide)
  have ok1 := ok_nS ha hy
  obtain ⟨h6, h7, h8⟩ : r4f (w4f N i (nS a y)) i (nS a y) := r4_w
  refine am_run hX 22 _ _ _ _ ?_
  conv => whnf
  iterate 6
    refine ⟨fun c => absurd c (by decide), fun _ => ?_⟩
  refine ⟨fun _ => ?_, fun c => absurd rfl c⟩
  conv => whnf
  refine am_c0 (ct_tS58 (d := d + 1) hi ha h hy) ?_
  conv => whnf
  iterate 3
    refine ⟨hin, ?_⟩
    conv => whnf
  rw [nI_clamp (n := i) (by omega), h6, h8, nI_bt ok1.1 ha, nI_xor, sn_w4 (y := nS a y) r4_w, w4_w]
  exact hK
set_option maxRecDepth 100000 in
theorem ct_ct1E {r p q : Nat} {y : RW} (hr : r < 4) (hp : p < 20) (hq : q < 20) (h : r4f M r y) (hy : rw_ok y) : am_M (d + 2) false nm_X8_turnByControlled [aR 58, aI 1, aI (nI r), aI (nI p), aI (nI q)] M (am_q0 (w4f M r (nS p (nH p (nC p q (nH p (nX p (nS p y)))))))) := by
  have hin : vp_in (nI r) 4 := vp_in_nI hr (by decide)
  have okS := ok_nS hp hy
  have okX := ok_nX (a := p) okS
  have ok1 := ok_nH hp okX
  have ok2 := ok_nC hp hq ok1
  have ok3 := ok_nH hp ok2
  have gS : r4f (w4f M r (nS p y)) r (nS p y) := r4_w
  obtain ⟨h6, h7, h8⟩ : r4f (w4f M r (nH p (nX p (nS p y)))) r (nH p (nX p (nS p y))) := r4_w
  have y1 := ok1.1
  have y2 := ok1.2.1
  refine ⟨rfl, rfl, rfl, fun X hX => am_run hX 140 _ _ _ _ ?_⟩
  conv => whnf
  refine ⟨fun c => absurd rfl c, fun _ => ?_⟩
  conv => whnf
  refine am_c0 (ct_tS58 (d := d) hr hp h hy) ?_
  conv => whnf
  iterate 3
    refine ⟨hin, ?_⟩
    conv => whnf
  rw [nI_clamp (n := r) (by omega), gS.1, gS.2.2, nI_bt okS.1 hp, nI_xor, sn_w4 (y := nS p y) r4_w, w4_w]
  refine ⟨fun c => absurd c (by decide), fun _ => ?_⟩
  conv => whnf
  refine am_c0 (ct_tH58 (d := d) (y := nX p (nS p y)) hr hp r4_w okX) ?_
  rw [show ((nS p y).1, (nS p y).2.1, (nS p y).2.2 ^^^ bt (nS p y).1 p) = nX p (nS p y) from rfl, w4_w]
  conv => whnf
  iterate 8
    refine ⟨hin, ?_⟩
    conv => whnf
  refine ⟨fun c => absurd c (by decide), fun _ => ?_⟩
  conv => whnf
  rw [nI_clamp (n := r) (by omega), mm_ne _ 61 60 _ (by decide), h6, h7, h8, nI_bt y1 hp, nI_bt y1 hq, nI_sh (by omega) p (by omega), nI_sh (by omega) q (by omega), nI_shl (by omega) (bt_sh hq), nI_shl (by omega) (bt_sh hp)]
  simp only [nI_xor, nI_and, nI_or]
  rw [cz_w4 h6, w4_w]
  refine am_c0 (ct_tH58 (d := d) hr hp r4_w ok2) ?_
  conv => whnf
  refine ⟨fun c => absurd rfl c, fun _ => ?_⟩
  conv => whnf
  rw [w4_w]
  refine am_c0 (ct_tS58 (d := d) hr hp r4_w ok3) ?_
  conv => whnf
  exact ⟨trivial, rfl, w4_w⟩
set_option maxRecDepth 100000 in
theorem bE_17 {P : am_Q} {X : am_X} {N : mm_M} {a b i : Nat} {y : RW} (hX : am_K (d + 2) false nm_X8_turnBy P X) (ha : a < 20) (hb : b < 20) (hi : i < 4) (h : r4f N i y) (hy : rw_ok y) (hK : X 252 [some (aR 58), some (aI (nI 17)), some (aI (nI b)), some (aI (nI a)), some (aI (nI i))] [] (w4f N i (nS b (nH b (nC b a (nH b (nX b (nS b y)))))))) : X 17 [some (aR 58), some (aI (nI 17)), some (aI (nI b)), some (aI (nI a)), some (aI (nI i))] [] N := by
  refine am_run hX 10 _ _ _ _ ?_
  conv => whnf
  iterate 9
    refine ⟨fun c => absurd c (by decide), fun _ => ?_⟩
  conv => whnf
  refine am_c0 (ct_ct1E (d := d) hi hb ha h hy) ?_
  conv => whnf
  exact hK
end SHP
