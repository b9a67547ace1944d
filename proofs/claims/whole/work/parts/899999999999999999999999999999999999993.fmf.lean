/-! FORM: the reference's numbers, by what they are -/
def a5 (f : Nat → Int64) (a K : Nat) (x : R4) : Prop := at5 f a (red K x).1 (red K x).2
/-- what a step with one number changes -/
def opF (c : Nat) (M N : mm_M) : Prop := N.1 = M.1 ∧ ∀ k, k ≠ 118 → k ≠ 119 → k ≠ c → N.2 k = M.2 k
theorem opF_r (c : Nat) (M : mm_M) : opF c M M := ⟨rfl, fun _ _ _ _ => rfl⟩
theorem opF_t {c : Nat} {M N K : mm_M} (h : opF c M N) (g : opF c N K) : opF c M K := ⟨g.1.trans h.1, fun k a b e => (g.2 k a b e).trans (h.2 k a b e)⟩
theorem opF_8 {c : Nat} {M N : mm_M} (h : opF 118 M N) : opF c M N := ⟨h.1, fun k a b _ => h.2 k a b a⟩
theorem on_e {N : mm_M} {x : R4} {k : Nat} (h : at5 (N.2 118) 0 x k) : mm_l N 118 (ov (N.2 118) x k) = N := by
  obtain ⟨h0, h1, h2, h3, h4⟩ := h
  have e : ov (N.2 118) x k = N.2 118 := by
    funext j
    rcases Nat.lt_or_ge j 5 with h | h
    · rcases (by omega : j = 0 ∨ j = 1 ∨ j = 2 ∨ j = 3 ∨ j = 4) with rfl | rfl | rfl | rfl | rfl
      · exact h0.symm
      · exact h1.symm
      · exact h2.symm
      · exact h3.symm
      · exact h4.symm
    · unfold ov
      rw [if_neg (by omega), if_neg (by omega), if_neg (by omega), if_neg (by omega), if_neg (by omega)]
  rw [e, mm_lz]
theorem a5_bd {K : Nat} {x : R4} (h : bd x) : bd (red K x).1 := bd_red K x h
section FMF
variable {d : Nat} {M : mm_M} {g : Nat → Int64}
set_option maxRecDepth 100000 in
theorem ct_hv0 {x : R4} {k : Nat} (hb : bd x) (hk : k < 2 ^ 30) : am_M (d + 2) false nm_X12_halve [aR 108] (mm_l M 118 (ov g x k)) (am_q0 (mm_l M 118 (ov g (red (if x = (0, 0, 0, 0) then k else k + 1) x).1 (red (if x = (0, 0, 0, 0) then k else k + 1) x).2))) := by
  refine ⟨rfl, rfl, rfl, fun X hX => am_run hX 2 _ _ _ _ ?_⟩
  conv => whnf
  refine am_c1 (ct_one0 (d := d) hb) ?_
  refine am_run hX 1 _ _ _ _ ?_
  conv => whnf
  by_cases z : x = (0, 0, 0, 0)
  · rw [if_pos z, if_pos z]
    refine ⟨fun _ => ?_, fun q => absurd (by decide) q⟩
    refine am_run hX 5 _ _ _ _ ?_
    conv => whnf
    refine am_c0 (ct_red (d := d) (by omega) hb) ?_
    refine am_run hX 1 _ _ _ _ ?_
    conv => whnf
    exact ⟨trivial, rfl, by rw [if_pos z]⟩
  · rw [if_neg z, if_neg z]
    refine ⟨fun q => absurd rfl q, fun _ => ?_⟩
    refine am_run hX 8 _ _ _ _ ?_
    conv => whnf
    refine ⟨by first | exact i5_4 | exact i5_04 | decide, ?_⟩
    conv => whnf
    refine ⟨by first | exact i5_4 | exact i5_04 | decide, ?_⟩
    simp only [mm_l2, mm_ll, k_4, ov_4, show (1 : Int64) = lI 1 from rfl, lI_add]
    rw [show ((k : Nat) : Int) + 1 = ((k + 1 : Nat) : Int) by omega, ov_u4]
    refine am_run hX 5 _ _ _ _ ?_
    conv => whnf
    refine am_c0 (ct_red (d := d) (by omega) hb) ?_
    refine am_run hX 1 _ _ _ _ ?_
    conv => whnf
    exact ⟨trivial, rfl, by rw [if_neg z]⟩
set_option maxRecDepth 100000 in
theorem ct_hP0 {x : R4} {k : Nat} (hb : bd x) (hk : k < 2 ^ 30) : am_M (d + 2) false nm_X12_halfPower [aR 108] (mm_l M 118 (ov g x k)) (am_q1 (aJ (lI (red (if x = (0, 0, 0, 0) then k else k + 2) x).2)) (mm_l M 118 (ov g (red (if x = (0, 0, 0, 0) then k else k + 2) x).1 (red (if x = (0, 0, 0, 0) then k else k + 2) x).2))) := by
  refine ⟨rfl, rfl, rfl, fun X hX => am_run hX 2 _ _ _ _ ?_⟩
  conv => whnf
  refine am_c1 (ct_one0 (d := d) hb) ?_
  refine am_run hX 1 _ _ _ _ ?_
  conv => whnf
  by_cases z : x = (0, 0, 0, 0)
  · rw [if_pos z, if_pos z]
    refine ⟨fun _ => ?_, fun q => absurd (by decide) q⟩
    refine am_run hX 5 _ _ _ _ ?_
    conv => whnf
    refine am_c0 (ct_red (d := d) (by omega) hb) ?_
    refine am_run hX 5 _ _ _ _ ?_
    conv => whnf
    refine ⟨by first | exact i5_4 | exact i5_04 | decide, ?_⟩
    conv => whnf
    simp only [mm_l2, k_4, ov_4]
    exact ⟨trivial, by rw [if_pos z], by rw [if_pos z]⟩
  · rw [if_neg z, if_neg z]
    refine ⟨fun q => absurd rfl q, fun _ => ?_⟩
    refine am_run hX 8 _ _ _ _ ?_
    conv => whnf
    refine ⟨by first | exact i5_4 | exact i5_04 | decide, ?_⟩
    conv => whnf
    refine ⟨by first | exact i5_4 | exact i5_04 | decide, ?_⟩
    simp only [mm_l2, mm_ll, k_4, ov_4, show (2 : Int64) = lI 2 from rfl, lI_add]
    rw [show ((k : Nat) : Int) + 2 = ((k + 2 : Nat) : Int) by omega, ov_u4]
    refine am_run hX 5 _ _ _ _ ?_
    conv => whnf
    refine am_c0 (ct_red (d := d) (by omega) hb) ?_
    refine am_run hX 5 _ _ _ _ ?_
    conv => whnf
    refine ⟨by first | exact i5_4 | exact i5_04 | decide, ?_⟩
    conv => whnf
    simp only [mm_l2, k_4, ov_4]
    exact ⟨trivial, by rw [if_neg z], by rw [if_neg z]⟩
theorem red_q {K q : Nat} {x : R4} : red (if (red K x).1 = (0, 0, 0, 0) then (red K x).2 else (red K x).2 + q) (red K x).1 = red (K + q) x := by
  by_cases z : (red K x).1 = (0, 0, 0, 0)
  · rw [if_pos z, z, red_nz z, red_0, red_0]
  · rw [if_neg z]
    exact vr_u (vr_q q (vr_red K x))
theorem one_q {P : am_Q} {x : R4} {k : Nat} (h : at5 (M.2 118) 0 x k) : ∀ {D : Nat} {m : Nat} {as : List am_V}, am_M D false m as (mm_l M 118 (ov (M.2 118) x k)) P → am_M D false m as M P := by
  intro D m as q
  rw [on_e h] at q
  exact q
theorem opF_l (f : Nat → Int64) : opF 118 M (mm_l M 118 f) := ⟨rfl, fun k a _ _ => mm_lne _ _ _ _ a⟩
theorem f_halve {K : Nat} {x : R4} (hK : K < 2 ^ 29) (hb : bd x) (h : a5 (M.2 118) 0 K x) : am_M (d + 2) false nm_X12_halve [aR 108] M (fun r N => r = .inl none ∧ opF 118 M N ∧ a5 (N.2 118) 0 (K + 1) x) := by
  have hk := red_k K x
  refine one_q h (am_wk (ct_hv0 (d := d) (M := M) (g := M.2 118) (a5_bd hb) (by omega)) fun r N q => ?_)
  obtain ⟨e1, e2⟩ := q
  subst e2
  refine ⟨e1, opF_l _, ?_⟩
  rw [mm_l2, red_q]
  exact at_ov _ _ _
theorem f_halfP {K : Nat} {x : R4} (hK : K < 2 ^ 29) (hb : bd x) (h : a5 (M.2 118) 0 K x) : am_M (d + 2) false nm_X12_halfPower [aR 108] M (fun r N => r = .inl (some (aJ (lI (red (K + 2) x).2))) ∧ opF 118 M N) := by
  have hk := red_k K x
  refine one_q h (am_wk (ct_hP0 (d := d) (M := M) (g := M.2 118) (a5_bd hb) (by omega)) fun r N q => ?_)
  obtain ⟨e1, e2⟩ := q
  subst e2
  refine ⟨?_, opF_l _⟩
  rw [e1, red_q]
theorem f_turn {K n : Nat} {x : R4} {p : Int32} (hn : n < 8) (hp : p &&& 7 = nI n) (h : a5 (M.2 118) 0 K x) : am_M (d + 1) false nm_X12_turnOne [aR 108, aI p] M (fun r N => r = .inl none ∧ opF 118 M N ∧ a5 (N.2 118) 0 K (t8n n x)) := by
  refine one_q h (am_wk (ct_turn1 (d := d) (M := M) (g := M.2 118) hn hp) fun r N q => ?_)
  obtain ⟨e1, e2⟩ := q
  subst e2
  refine ⟨e1, opF_l _, ?_⟩
  unfold a5
  rw [mm_l2, red_t8n]
  exact at_ov _ _ _
theorem f_conj {K : Nat} {x : R4} (h : a5 (M.2 118) 0 K x) : am_M (d + 1) false nm_X12_conjugate [aR 108] M (fun r N => r = .inl none ∧ opF 118 M N ∧ a5 (N.2 118) 0 K (cj x)) := by
  refine one_q h (am_wk (ct_conj (d := d) (M := M) (g := M.2 118)) fun r N q => ?_)
  obtain ⟨e1, e2⟩ := q
  subst e2
  refine ⟨e1, opF_l _, ?_⟩
  unfold a5
  rw [mm_l2, red_cj]
  exact at_ov _ _ _
theorem f_clr : am_M (d + 1) false nm_X12_clearSum [aR 108] M (fun r N => r = .inl none ∧ opF 153 M N ∧ ∀ K, a5 (N.2 153) 0 K (0, 0, 0, 0)) := by
  refine am_wk (ct_clr (d := d) (M := M)) fun r N q => ?_
  obtain ⟨e1, e2⟩ := q
  subst e2
  refine ⟨e1, ⟨rfl, fun k _ _ a => mm_lne _ _ _ _ a⟩, fun K => ?_⟩
  unfold a5
  rw [mm_l2, red_0]
  exact at_ov _ _ _
theorem f_keepS {K : Nat} {x : R4} (h : a5 (M.2 118) 0 K x) : am_M (d + 2) false nm_X12_keepSum [aR 108] M (fun r N => r = .inl none ∧ opF 153 M N ∧ a5 (N.2 153) 0 K x) := by
  refine one_q h (am_wk (ct_keepS (d := d) (M := M) (g := M.2 118)) fun r N q => ?_)
  obtain ⟨e1, e2⟩ := q
  subst e2
  refine ⟨e1, ⟨rfl, fun k a _ b => by rw [mm_lne _ _ _ _ b, mm_lne _ _ _ _ a]⟩, ?_⟩
  unfold a5
  rw [mm_l2]
  exact at_ov _ _ _
theorem opF_2 (f f' : Nat → Int64) : opF 118 M (mm_l (mm_l M 119 f) 118 f') := ⟨rfl, fun k a b _ => by rw [mm_lne _ _ _ _ a, mm_lne _ _ _ _ b]⟩
theorem f_ld186 {a K : Nat} {x : R4} (ha : a + 5 ≤ 20) (h : a5 (M.2 186) a K x) : am_M (d + 1) false nm_X12_load [aR 108, aR 186, aI (nI a)] M (fun r N => r = .inl none ∧ opF 118 M N ∧ a5 (N.2 118) 0 K x) := by
  refine am_wk (ct_ld186 (d := d) ha h) fun r N q => ?_
  obtain ⟨e1, e2⟩ := q
  subst e2
  refine ⟨e1, opF_l _, ?_⟩
  unfold a5
  rw [mm_l2]
  exact at_ov _ _ _
theorem f_st186 {a K : Nat} {x : R4} (ha : a + 5 ≤ 20) (h : a5 (M.2 118) 0 K x) : am_M (d + 1) false nm_X12_store [aR 108, aR 186, aI (nI a)] M (fun r N => r = .inl none ∧ opF 186 M N ∧ a5 (N.2 186) a K x ∧ ∀ b L y, b + 5 ≤ a ∨ a + 5 ≤ b → a5 (M.2 186) b L y → a5 (N.2 186) b L y) := by
  refine one_q h (am_wk (ct_store186 (d := d) (M := mm_l M 118 (ov (M.2 118) (red K x).1 (red K x).2)) ha) fun r N q => ?_)
  obtain ⟨e1, e2⟩ := q
  subst e2
  refine ⟨e1, ⟨rfl, fun k a _ b => by rw [mm_lne _ _ _ _ b, mm_lne _ _ _ _ a]⟩, ?_, fun b L y hb hy => ?_⟩
  · unfold a5
    rw [mm_l2, mm_l2]
    exact at_sv _ _ _ _ _
  · unfold a5
    rw [mm_l2, mm_lne _ _ _ _ (by decide)]
    exact at_ne hy hb
theorem f_add186p {a K : Nat} {x y : R4} (ha : a + 5 ≤ 20) (hK : K < 2 ^ 29) (hb : bd (ra x y)) (h : a5 (M.2 118) 0 K x) (h' : a5 (M.2 186) a K y) : am_M (d + 2) false nm_X12_add [aR 108, aR 186, aI (nI a), aI 1] M (fun r N => r = .inl none ∧ opF 118 M N ∧ a5 (N.2 118) 0 K (ra x y)) := by
  have k1 := red_k K x
  have k2 := red_k K y
  have v := vr_ra (vr_red K x) (vr_red K y)
  refine one_q h (am_wk (ct_add186p (d := d) (M := M) (g := M.2 118) ha (by omega) (by omega) h' (vr_bd v hb)) fun r N q => ?_)
  obtain ⟨e1, e2⟩ := q
  subst e2
  refine ⟨e1, opF_2 _ _, ?_⟩
  unfold a5
  rw [mm_l2, vr_u v]
  exact at_ov _ _ _
theorem f_add186m {a K : Nat} {x y : R4} (ha : a + 5 ≤ 20) (hK : K < 2 ^ 29) (hb : bd (ra x (ng y))) (h : a5 (M.2 118) 0 K x) (h' : a5 (M.2 186) a K y) : am_M (d + 2) false nm_X12_add [aR 108, aR 186, aI (nI a), aI (-1)] M (fun r N => r = .inl none ∧ opF 118 M N ∧ a5 (N.2 118) 0 K (ra x (ng y))) := by
  have k1 := red_k K x
  have k2 := red_k K y
  have v := vr_ra (vr_red K x) (vr_ng (vr_red K y))
  refine one_q h (am_wk (ct_add186m (d := d) (M := M) (g := M.2 118) ha (by omega) (by omega) h' (vr_bd v hb)) fun r N q => ?_)
  obtain ⟨e1, e2⟩ := q
  subst e2
  refine ⟨e1, opF_2 _ _, ?_⟩
  unfold a5
  rw [mm_l2, vr_u v]
  exact at_ov _ _ _
theorem f_mul186 {a K L : Nat} {x y : R4} (ha : a + 5 ≤ 20) (hK : K < 2 ^ 28) (hL : L < 2 ^ 28) (hb : bd (mu x y)) (h : a5 (M.2 118) 0 K x) (h' : a5 (M.2 186) a L y) : am_M (d + 2) false nm_X12_multiply [aR 108, aR 186, aI (nI a)] M (fun r N => r = .inl none ∧ opF 118 M N ∧ a5 (N.2 118) 0 (K + L) (mu x y)) := by
  have k1 := red_k K x
  have k2 := red_k L y
  have v := vr_mu (vr_red K x) (vr_red L y)
  refine one_q h (am_wk (ct_mul186 (d := d) (M := M) (g := M.2 118) ha (by omega) (by omega) h' (vr_bd v hb)) fun r N q => ?_)
  obtain ⟨e1, e2⟩ := q
  subst e2
  refine ⟨e1, opF_l _, ?_⟩
  unfold a5
  rw [mm_l2, vr_u v]
  exact at_ov _ _ _
theorem f_ld187 {a K : Nat} {x : R4} (ha : a + 5 ≤ 20) (h : a5 (M.2 187) a K x) : am_M (d + 1) false nm_X12_load [aR 108, aR 187, aI (nI a)] M (fun r N => r = .inl none ∧ opF 118 M N ∧ a5 (N.2 118) 0 K x) := by
  refine am_wk (ct_ld187 (d := d) ha h) fun r N q => ?_
  obtain ⟨e1, e2⟩ := q
  subst e2
  refine ⟨e1, opF_l _, ?_⟩
  unfold a5
  rw [mm_l2]
  exact at_ov _ _ _
theorem f_st187 {a K : Nat} {x : R4} (ha : a + 5 ≤ 20) (h : a5 (M.2 118) 0 K x) : am_M (d + 1) false nm_X12_store [aR 108, aR 187, aI (nI a)] M (fun r N => r = .inl none ∧ opF 187 M N ∧ a5 (N.2 187) a K x ∧ ∀ b L y, b + 5 ≤ a ∨ a + 5 ≤ b → a5 (M.2 187) b L y → a5 (N.2 187) b L y) := by
  refine one_q h (am_wk (ct_store187 (d := d) (M := mm_l M 118 (ov (M.2 118) (red K x).1 (red K x).2)) ha) fun r N q => ?_)
  obtain ⟨e1, e2⟩ := q
  subst e2
  refine ⟨e1, ⟨rfl, fun k a _ b => by rw [mm_lne _ _ _ _ b, mm_lne _ _ _ _ a]⟩, ?_, fun b L y hb hy => ?_⟩
  · unfold a5
    rw [mm_l2, mm_l2]
    exact at_sv _ _ _ _ _
  · unfold a5
    rw [mm_l2, mm_lne _ _ _ _ (by decide)]
    exact at_ne hy hb
theorem f_add187p {a K : Nat} {x y : R4} (ha : a + 5 ≤ 20) (hK : K < 2 ^ 29) (hb : bd (ra x y)) (h : a5 (M.2 118) 0 K x) (h' : a5 (M.2 187) a K y) : am_M (d + 2) false nm_X12_add [aR 108, aR 187, aI (nI a), aI 1] M (fun r N => r = .inl none ∧ opF 118 M N ∧ a5 (N.2 118) 0 K (ra x y)) := by
  have k1 := red_k K x
  have k2 := red_k K y
  have v := vr_ra (vr_red K x) (vr_red K y)
  refine one_q h (am_wk (ct_add187p (d := d) (M := M) (g := M.2 118) ha (by omega) (by omega) h' (vr_bd v hb)) fun r N q => ?_)
  obtain ⟨e1, e2⟩ := q
  subst e2
  refine ⟨e1, opF_2 _ _, ?_⟩
  unfold a5
  rw [mm_l2, vr_u v]
  exact at_ov _ _ _
theorem f_add187m {a K : Nat} {x y : R4} (ha : a + 5 ≤ 20) (hK : K < 2 ^ 29) (hb : bd (ra x (ng y))) (h : a5 (M.2 118) 0 K x) (h' : a5 (M.2 187) a K y) : am_M (d + 2) false nm_X12_add [aR 108, aR 187, aI (nI a), aI (-1)] M (fun r N => r = .inl none ∧ opF 118 M N ∧ a5 (N.2 118) 0 K (ra x (ng y))) := by
  have k1 := red_k K x
  have k2 := red_k K y
  have v := vr_ra (vr_red K x) (vr_ng (vr_red K y))
  refine one_q h (am_wk (ct_add187m (d := d) (M := M) (g := M.2 118) ha (by omega) (by omega) h' (vr_bd v hb)) fun r N q => ?_)
  obtain ⟨e1, e2⟩ := q
  subst e2
  refine ⟨e1, opF_2 _ _, ?_⟩
  unfold a5
  rw [mm_l2, vr_u v]
  exact at_ov _ _ _
theorem f_mul187 {a K L : Nat} {x y : R4} (ha : a + 5 ≤ 20) (hK : K < 2 ^ 28) (hL : L < 2 ^ 28) (hb : bd (mu x y)) (h : a5 (M.2 118) 0 K x) (h' : a5 (M.2 187) a L y) : am_M (d + 2) false nm_X12_multiply [aR 108, aR 187, aI (nI a)] M (fun r N => r = .inl none ∧ opF 118 M N ∧ a5 (N.2 118) 0 (K + L) (mu x y)) := by
  have k1 := red_k K x
  have k2 := red_k L y
  have v := vr_mu (vr_red K x) (vr_red L y)
  refine one_q h (am_wk (ct_mul187 (d := d) (M := M) (g := M.2 118) ha (by omega) (by omega) h' (vr_bd v hb)) fun r N q => ?_)
  obtain ⟨e1, e2⟩ := q
  subst e2
  refine ⟨e1, opF_l _, ?_⟩
  unfold a5
  rw [mm_l2, vr_u v]
  exact at_ov _ _ _
theorem f_ld188 {a K : Nat} {x : R4} (ha : a + 5 ≤ 20) (h : a5 (M.2 188) a K x) : am_M (d + 1) false nm_X12_load [aR 108, aR 188, aI (nI a)] M (fun r N => r = .inl none ∧ opF 118 M N ∧ a5 (N.2 118) 0 K x) := by
  refine am_wk (ct_ld188 (d := d) ha h) fun r N q => ?_
  obtain ⟨e1, e2⟩ := q
  subst e2
  refine ⟨e1, opF_l _, ?_⟩
  unfold a5
  rw [mm_l2]
  exact at_ov _ _ _
theorem f_add188p {a K : Nat} {x y : R4} (ha : a + 5 ≤ 20) (hK : K < 2 ^ 29) (hb : bd (ra x y)) (h : a5 (M.2 118) 0 K x) (h' : a5 (M.2 188) a K y) : am_M (d + 2) false nm_X12_add [aR 108, aR 188, aI (nI a), aI 1] M (fun r N => r = .inl none ∧ opF 118 M N ∧ a5 (N.2 118) 0 K (ra x y)) := by
  have k1 := red_k K x
  have k2 := red_k K y
  have v := vr_ra (vr_red K x) (vr_red K y)
  refine one_q h (am_wk (ct_add188p (d := d) (M := M) (g := M.2 118) ha (by omega) (by omega) h' (vr_bd v hb)) fun r N q => ?_)
  obtain ⟨e1, e2⟩ := q
  subst e2
  refine ⟨e1, opF_2 _ _, ?_⟩
  unfold a5
  rw [mm_l2, vr_u v]
  exact at_ov _ _ _
theorem f_add188m {a K : Nat} {x y : R4} (ha : a + 5 ≤ 20) (hK : K < 2 ^ 29) (hb : bd (ra x (ng y))) (h : a5 (M.2 118) 0 K x) (h' : a5 (M.2 188) a K y) : am_M (d + 2) false nm_X12_add [aR 108, aR 188, aI (nI a), aI (-1)] M (fun r N => r = .inl none ∧ opF 118 M N ∧ a5 (N.2 118) 0 K (ra x (ng y))) := by
  have k1 := red_k K x
  have k2 := red_k K y
  have v := vr_ra (vr_red K x) (vr_ng (vr_red K y))
  refine one_q h (am_wk (ct_add188m (d := d) (M := M) (g := M.2 118) ha (by omega) (by omega) h' (vr_bd v hb)) fun r N q => ?_)
  obtain ⟨e1, e2⟩ := q
  subst e2
  refine ⟨e1, opF_2 _ _, ?_⟩
  unfold a5
  rw [mm_l2, vr_u v]
  exact at_ov _ _ _
theorem f_ld152 {a K : Nat} {x : R4} (ha : a + 5 ≤ 10) (h : a5 (M.2 152) a K x) : am_M (d + 1) false nm_X12_load [aR 108, aR 152, aI (nI a)] M (fun r N => r = .inl none ∧ opF 118 M N ∧ a5 (N.2 118) 0 K x) := by
  refine am_wk (ct_ld152 (d := d) ha h) fun r N q => ?_
  obtain ⟨e1, e2⟩ := q
  subst e2
  refine ⟨e1, opF_l _, ?_⟩
  unfold a5
  rw [mm_l2]
  exact at_ov _ _ _
theorem f_st152 {a K : Nat} {x : R4} (ha : a + 5 ≤ 10) (h : a5 (M.2 118) 0 K x) : am_M (d + 1) false nm_X12_store [aR 108, aR 152, aI (nI a)] M (fun r N => r = .inl none ∧ opF 152 M N ∧ a5 (N.2 152) a K x ∧ ∀ b L y, b + 5 ≤ a ∨ a + 5 ≤ b → a5 (M.2 152) b L y → a5 (N.2 152) b L y) := by
  refine one_q h (am_wk (ct_store152 (d := d) (M := mm_l M 118 (ov (M.2 118) (red K x).1 (red K x).2)) ha) fun r N q => ?_)
  obtain ⟨e1, e2⟩ := q
  subst e2
  refine ⟨e1, ⟨rfl, fun k a _ b => by rw [mm_lne _ _ _ _ b, mm_lne _ _ _ _ a]⟩, ?_, fun b L y hb hy => ?_⟩
  · unfold a5
    rw [mm_l2, mm_l2]
    exact at_sv _ _ _ _ _
  · unfold a5
    rw [mm_l2, mm_lne _ _ _ _ (by decide)]
    exact at_ne hy hb
theorem f_add153p {a K : Nat} {x y : R4} (ha : a + 5 ≤ 5) (hK : K < 2 ^ 29) (hb : bd (ra x y)) (h : a5 (M.2 118) 0 K x) (h' : a5 (M.2 153) a K y) : am_M (d + 2) false nm_X12_add [aR 108, aR 153, aI (nI a), aI 1] M (fun r N => r = .inl none ∧ opF 118 M N ∧ a5 (N.2 118) 0 K (ra x y)) := by
  have k1 := red_k K x
  have k2 := red_k K y
  have v := vr_ra (vr_red K x) (vr_red K y)
  refine one_q h (am_wk (ct_add153p (d := d) (M := M) (g := M.2 118) ha (by omega) (by omega) h' (vr_bd v hb)) fun r N q => ?_)
  obtain ⟨e1, e2⟩ := q
  subst e2
  refine ⟨e1, opF_2 _ _, ?_⟩
  unfold a5
  rw [mm_l2, vr_u v]
  exact at_ov _ _ _
end FMF
