/-! circuit: the class reads chars -/
/-- but some fields of the Reader stay -/
def r2F (S : List Nat) (M N : mm_M) : Prop := (∀ k, k ≠ 2 → N.1 k = M.1 k) ∧ (∀ y, S.contains y = false → N.1 2 y = M.1 2 y) ∧ N.2 = M.2
theorem r2F_r (S : List Nat) (M : mm_M) : r2F S M M := ⟨fun _ _ => rfl, fun _ _ => rfl, rfl⟩
theorem r2F_t {S : List Nat} {M N K : mm_M} (h : r2F S M N) (g : r2F S N K) : r2F S M K := ⟨fun k a => (g.1 k a).trans (h.1 k a), fun y a => (g.2.1 y a).trans (h.2.1 y a), g.2.2.trans h.2.2⟩
theorem r2F_w {S R : List Nat} {M N : mm_M} (hs : ∀ y ∈ S, R.contains y = true) (h : r2F S M N) : r2F R M N := ⟨h.1, fun y hy => h.2.1 y (by
  cases q : S.contains y with
  | false => rfl
  | true =>
    have := hs y (List.contains_iff_mem.mp q)
    rw [hy] at this
    exact absurd this (by decide)), h.2.2⟩
theorem r2F_u {S : List Nat} (M : mm_M) {y : Nat} (v : Int32) (hy : S.contains y = true) : r2F S M (mm_i M 2 (upd (M.1 2) y v)) := ⟨fun k a => mm_ne _ _ _ _ a, fun z hz => by
  rw [mm_i1, up_ne (fun e => by rw [e, hy] at hz; exact absurd hz (by decide))], rfl⟩
theorem r2_at (M : mm_M) (y : Nat) (v : Int32) : (mm_i M 2 (upd (M.1 2) y v)).1 2 y = v := by
  rw [mm_i1]
  exact up_at
/-- the TEXT, as the class has it -/
def rdX (M : mm_M) (T : Nat → Nat) (t : Nat) : Prop := t ≤ 400 ∧ M.1 2 6 = 1 ∧ M.1 2 7 = nI t ∧ ∀ j, j < t → M.1 1 j = nI (T j) ∧ 32 ≤ T j ∧ T j < 127
theorem rdX_f {S : List Nat} {M N : mm_M} {T : Nat → Nat} {t : Nat} (hS : S.contains 6 = false ∧ S.contains 7 = false) (h : r2F S M N) (g : rdX M T t) : rdX N T t := ⟨g.1, by rw [h.2.1 6 hS.1]; exact g.2.1, by rw [h.2.1 7 hS.2]; exact g.2.2.1, fun j hj => by rw [h.1 1 (by decide)]; exact g.2.2.2 j hj⟩
theorem nx_s {T : Nat → Nat} {t j : Nat} (hj : j < t) (h : T j = 32) : nxQ T t j = nxQ T t (j + 1) := by
  unfold nxQ
  rw [show t - j = (t - (j + 1)) + 1 by omega]
  show (if T j = 32 then nxS T (t - (j + 1)) (j + 1) else j) = _
  rw [if_pos h]
theorem nx_n {T : Nat → Nat} {t j : Nat} (h : j = t ∨ T j ≠ 32) : nxQ T t j = j := nxQ_s h
theorem na_c : ∀ c, c < 127 → vp_nar .char (nI c) = nI c := by decide +kernel
theorem na_v {c : Nat} (h : c < 127) : narrow FieldType.char (Value.int (nI c)) = Value.int (nI c) := congrArg Value.int (na_c c h)
theorem gf6 (M : mm_M) (K : am_V → am_O) (h6 : M.1 2 6 = 1) : am_gf M 2 5 6 K = K (.inr (.inr (some 1))) := by
  show (bif M.1 2 6 == 0 then K (.inr (.inr none)) else K (.inr (.inr (some 1)))) = _
  rw [h6]
  rfl
section CRC
variable {d : Nat} {M : mm_M} {T : Nat → Nat} {t : Nat}
theorem g6_take12 {P : am_Q} {X : am_X} {N : mm_M} {L : am_L} {st : List am_V} (hX : am_K d false nm_X5_take P X) (h6 : N.1 2 6 = 1) (hK : X 15 L (aR 1 :: st) N) : X 12 L (aR 2 :: st) N := by
  refine hX 12 L (aR 2 :: st) N ?_
  show am_G (am_M d false) P X (am_gf N 2 5 6 (fun u => am_nx (12 + 3, L, u :: st, N)))
  rw [gf6 N _ h6]
  exact hK
theorem g6_take70 {P : am_Q} {X : am_X} {N : mm_M} {L : am_L} {st : List am_V} (hX : am_K d false nm_X5_take P X) (h6 : N.1 2 6 = 1) (hK : X 73 L (aR 1 :: st) N) : X 70 L (aR 2 :: st) N := by
  refine hX 70 L (aR 2 :: st) N ?_
  show am_G (am_M d false) P X (am_gf N 2 5 6 (fun u => am_nx (70 + 3, L, u :: st, N)))
  rw [gf6 N _ h6]
  exact hK
theorem g6_peek14 {P : am_Q} {X : am_X} {N : mm_M} {L : am_L} {st : List am_V} (hX : am_K d false nm_X5_peek P X) (h6 : N.1 2 6 = 1) (hK : X 17 L (aR 1 :: st) N) : X 14 L (aR 2 :: st) N := by
  refine hX 14 L (aR 2 :: st) N ?_
  show am_G (am_M d false) P X (am_gf N 2 5 6 (fun u => am_nx (14 + 3, L, u :: st, N)))
  rw [gf6 N _ h6]
  exact hK
theorem g6_peek39 {P : am_Q} {X : am_X} {N : mm_M} {L : am_L} {st : List am_V} (hX : am_K d false nm_X5_peek P X) (h6 : N.1 2 6 = 1) (hK : X 42 L (aR 1 :: st) N) : X 39 L (aR 2 :: st) N := by
  refine hX 39 L (aR 2 :: st) N ?_
  show am_G (am_M d false) P X (am_gf N 2 5 6 (fun u => am_nx (39 + 3, L, u :: st, N)))
  rw [gf6 N _ h6]
  exact hK
set_option maxRecDepth 100000 in
theorem tke_l {P : am_Q} {X : am_X} {i : Nat} (hX : am_K d false nm_X5_take P X) (hT : rdX M T t) (hP : ∀ N, r2F [8, 9] M N → N.1 2 8 = nI (crA T t i) → N.1 2 9 = nI (crP T t i) → P (.inl (some (aI (nI (crC T t i))))) N) : ∀ (m j : Nat) (N : mm_M), j + m = t → nxQ T t j = nxQ T t i → r2F [8, 9] M N → N.1 2 8 = nI j → X 0 [some (aR 2)] [] N := by
  have t4 := hT.1
  have fin : ∀ (j : Nat) (N : mm_M), j ≤ t → crP T t i = j → r2F [8, 9] M N → N.1 2 8 = nI j → X 38 [some (aR 2)] [] N := by
    intro j N hj hp hF h8
    have hN := rdX_f ⟨rfl, rfl⟩ hF hT
    refine am_run hX 4 _ _ _ _ ?_
    conv => whnf
    rw [h8]
    generalize hN1 : mm_i N 2 _ = N1
    have F1 : r2F [8, 9] M N1 := by rw [← hN1]; exact r2F_t hF (r2F_u N _ rfl)
    have e9 : N1.1 2 9 = nI j := by rw [← hN1]; exact r2_at _ _ _
    have e8 : N1.1 2 8 = nI j := by rw [← hN1, mm_i1, up_ne (by decide)]; exact h8
    have hN1' := rdX_f ⟨rfl, rfl⟩ F1 hT
    refine am_run hX 5 _ _ _ _ ?_
    conv => whnf
    rw [e8, hN1'.2.2.1]
    by_cases jt : j < t
    · refine ⟨fun _ => ?_, fun z => absurd (nI_lt jt (by omega)) z⟩
      refine am_run hX 6 _ _ _ _ ?_
      conv => whnf
      rw [e8, nI_1]
      generalize hN2 : mm_i N1 2 _ = N2
      have F2 : r2F [8, 9] M N2 := by rw [← hN2]; exact r2F_t F1 (r2F_u N1 _ rfl)
      have e82 : N2.1 2 8 = nI (j + 1) := by rw [← hN2]; exact r2_at _ _ _
      have e92 : N2.1 2 9 = nI j := by rw [← hN2, mm_i1, up_ne (by decide)]; exact e9
      have hN2' := rdX_f ⟨rfl, rfl⟩ F2 hT
      obtain ⟨c1, c2, c3⟩ := hN2'.2.2.2 j jt
      refine am_run hX 1 _ _ _ _ ?_
      conv => whnf
      refine g6_take70 hX hN2'.2.1 ?_
      refine am_run hX 4 _ _ _ _ ?_
      conv => whnf
      rw [e92]
      refine ⟨vp_in_nI (by show j < 400; omega) (by decide), ?_⟩
      conv => whnf
      rw [nI_clamp (n := j) (by omega), c1]
      have ec : crC T t i = T j := by unfold crC seV; rw [hp, if_pos jt]
      have ea : crA T t i = j + 1 := by unfold crA; rw [hp, if_pos jt]
      refine ⟨na_v c3, ?_⟩
      rw [← ec]
      exact hP N2 F2 (by rw [ea]; exact e82) (by rw [hp]; exact e92)
    · have : j = t := by omega
      subst this
      refine ⟨fun z => absurd z (nI_nlt (Nat.le_refl _) (by omega)), fun _ => ?_⟩
      refine am_run hX 2 _ _ _ _ ?_
      conv => whnf
      have ec : crC T j i = 0 := by unfold crC seV; rw [hp, if_neg jt]
      have ea : crA T j i = j := by unfold crA; rw [hp, if_neg jt]
      refine ⟨rfl, ?_⟩
      have := hP N1 F1 (by rw [ea]; exact e8) (by rw [hp]; exact e9)
      rw [ec] at this
      exact this
  intro m
  induction m with
  | zero =>
    intro j N hj hn hF h8
    have hN := rdX_f ⟨rfl, rfl⟩ hF hT
    obtain rfl : j = t := by omega
    refine am_run hX 5 _ _ _ _ ?_
    conv => whnf
    rw [h8, hN.2.2.1]
    exact ⟨fun _ => fin j N (Nat.le_refl _) (by unfold crP; rw [← hn, nx_n (Or.inl rfl)]) hF h8, fun z => absurd (nI_le (Nat.le_refl _) (by omega)) z⟩
  | succ m ih =>
    intro j N hj hn hF h8
    have jt : j < t := by omega
    have hN := rdX_f ⟨rfl, rfl⟩ hF hT
    obtain ⟨c1, c2, c3⟩ := hN.2.2.2 j jt
    refine am_run hX 5 _ _ _ _ ?_
    conv => whnf
    rw [h8, hN.2.2.1]
    refine ⟨fun z => absurd z (nI_ge jt (by omega)), fun _ => ?_⟩
    refine am_run hX 1 _ _ _ _ ?_
    conv => whnf
    refine g6_take12 hX hN.2.1 ?_
    refine am_run hX 5 _ _ _ _ ?_
    conv => whnf
    rw [h8]
    refine ⟨vp_in_nI (by show j < 400; omega) (by decide), ?_⟩
    conv => whnf
    rw [nI_clamp (n := j) (by omega), c1, show (32 : Int32) = nI 32 from rfl, nI_eq (by omega) (by decide)]
    by_cases s : T j = 32
    · refine ⟨fun z => absurd s z, fun _ => ?_⟩
      refine am_run hX 7 _ _ _ _ ?_
      conv => whnf
      rw [h8, nI_1]
      refine ih (j + 1) _ (by omega) (by rw [← nx_s jt s]; exact hn) (r2F_t hF (r2F_u N _ rfl)) (r2_at _ _ _)
    · refine ⟨fun _ => fin j N (by omega) (by unfold crP; rw [← hn, nx_n (Or.inr s)]) hF h8, fun z => absurd s z⟩
set_option maxRecDepth 100000 in
theorem ct_take5 {i : Nat} (hT : rdX M T t) (hi : i ≤ t) (h8 : M.1 2 8 = nI i) : am_M (d + 1) false nm_X5_take [aR 2] M (fun r N => r = .inl (some (aI (nI (crC T t i)))) ∧ r2F [8, 9] M N ∧ N.1 2 8 = nI (crA T t i) ∧ N.1 2 9 = nI (crP T t i)) := by
  refine ⟨rfl, rfl, rfl, fun X hX => ?_⟩
  exact tke_l (M := M) (i := i) hX hT (fun N a b c => ⟨rfl, a, b, c⟩) (t - i) i M (by omega) rfl (r2F_r _ M) h8
set_option maxRecDepth 100000 in
theorem pk_l' {P : am_Q} {X : am_X} {i : Nat} (hX : am_K d false nm_X5_peek P X) (hT : rdX M T t) (hP : P (.inl (some (aI (nI (crC T t i))))) M) : ∀ (m j : Nat), j + m = t → nxQ T t j = nxQ T t i → X 5 [some (aR 2), some (aI (nI j))] [] M := by
  have t4 := hT.1
  have fin : ∀ (j : Nat), j ≤ t → crP T t i = j → X 30 [some (aR 2), some (aI (nI j))] [] M := by
    intro j hj hp
    refine am_run hX 4 _ _ _ _ ?_
    conv => whnf
    rw [hT.2.2.1]
    by_cases jt : j < t
    · obtain ⟨c1, c2, c3⟩ := hT.2.2.2 j jt
      have ec : crC T t i = T j := by unfold crC seV; rw [hp, if_pos jt]
      refine ⟨fun z => absurd z (nI_ge jt (by omega)), fun _ => ?_⟩
      refine am_run hX 1 _ _ _ _ ?_
      conv => whnf
      refine g6_peek39 hX hT.2.1 ?_
      refine am_run hX 3 _ _ _ _ ?_
      conv => whnf
      refine ⟨vp_in_nI (by show j < 400; omega) (by decide), ?_⟩
      conv => whnf
      rw [nI_clamp (n := j) (by omega), c1]
      refine am_run hX 1 _ _ _ _ ?_
      conv => whnf
      rw [← ec]
      exact ⟨na_v (c := crC T t i) (by rw [ec]; exact c3), hP⟩
    · have : j = t := by omega
      subst this
      have ec : crC T j i = 0 := by unfold crC seV; rw [hp, if_neg jt]
      refine ⟨fun _ => ?_, fun z => absurd (nI_le (Nat.le_refl _) (by omega)) z⟩
      refine am_run hX 2 _ _ _ _ ?_
      conv => whnf
      rw [ec] at hP
      exact ⟨rfl, hP⟩
  intro m
  induction m with
  | zero =>
    intro j hj hn
    obtain rfl : j = t := by omega
    refine am_run hX 4 _ _ _ _ ?_
    conv => whnf
    rw [hT.2.2.1]
    exact ⟨fun _ => fin j (Nat.le_refl _) (by unfold crP; rw [← hn, nx_n (Or.inl rfl)]), fun z => absurd (nI_le (Nat.le_refl _) (by omega)) z⟩
  | succ m ih =>
    intro j hj hn
    have jt : j < t := by omega
    obtain ⟨c1, c2, c3⟩ := hT.2.2.2 j jt
    refine am_run hX 4 _ _ _ _ ?_
    conv => whnf
    rw [hT.2.2.1]
    refine ⟨fun z => absurd z (nI_ge jt (by omega)), fun _ => ?_⟩
    refine am_run hX 1 _ _ _ _ ?_
    conv => whnf
    refine g6_peek14 hX hT.2.1 ?_
    refine am_run hX 4 _ _ _ _ ?_
    conv => whnf
    refine ⟨vp_in_nI (by show j < 400; omega) (by decide), ?_⟩
    conv => whnf
    rw [nI_clamp (n := j) (by omega), c1, show (32 : Int32) = nI 32 from rfl, nI_eq (by omega) (by decide)]
    by_cases s : T j = 32
    · refine ⟨fun z => absurd s z, fun _ => ?_⟩
      refine am_run hX 2 _ _ _ _ ?_
      conv => whnf
      rw [nI_1]
      exact ih (j + 1) (by omega) (by rw [← nx_s jt s]; exact hn)
    · exact ⟨fun _ => fin j (by omega) (by unfold crP; rw [← hn, nx_n (Or.inr s)]), fun z => absurd s z⟩
set_option maxRecDepth 100000 in
theorem ct_peek {i : Nat} (hT : rdX M T t) (hi : i ≤ t) (h8 : M.1 2 8 = nI i) : am_M (d + 1) false nm_X5_peek [aR 2] M (am_q1 (aI (nI (crC T t i))) M) := by
  refine ⟨rfl, rfl, rfl, fun X hX => am_run hX 3 _ _ _ _ ?_⟩
  conv => whnf
  rw [h8]
  exact pk_l' (M := M) (i := i) hX hT ⟨rfl, rfl⟩ (t - i) i (by omega) rfl
set_option maxRecDepth 100000 in
theorem ct_brok {p : Nat} (h9 : M.1 2 9 = nI p) : am_M (d + 1) false nm_X5_broken [aR 2] M (fun r N => r = .inl (some (aI 0)) ∧ r2F [19] M N ∧ N.1 2 19 = nI (8 * p + 1)) := by
  refine ⟨rfl, rfl, rfl, fun X hX => am_run hX 8 _ _ _ _ ?_⟩
  conv => whnf
  rw [h9, show (8 : Int32) = nI 8 from rfl, nI_mul, nI_1]
  refine am_run hX 2 _ _ _ _ ?_
  conv => whnf
  exact ⟨rfl, rfl, r2F_u M _ rfl, r2_at _ _ _⟩
set_option maxRecDepth 100000 in
theorem ct_note5 {f p k : Nat} (hf : f < 2 ^ 20) (hp : p < 2 ^ 10) (hk : k < 8) (h19 : M.1 2 19 = nI f) : am_M (d + 1) false nm_X5_note [aR 2, aI (nI k), aI (nI p)] M (fun r N => r = .inl none ∧ r2F [19] M N ∧ N.1 2 19 = nI (ntF f p k)) := by
  refine ⟨rfl, rfl, rfl, fun X hX => am_run hX 6 _ _ _ _ ?_⟩
  conv => whnf
  rw [show (8 : Int32) = nI 8 from rfl, nI_mul, nI_add]
  refine am_run hX 4 _ _ _ _ ?_
  conv => whnf
  rw [h19]
  by_cases f0 : f = 0
  · have e : ntF f p k = 8 * p + k := if_pos f0
    rw [f0]
    refine ⟨fun z => absurd rfl z, fun _ => ?_⟩
    refine am_run hX 2 _ _ _ _ ?_
    conv => whnf
    refine am_run hX 2 _ _ _ _ ?_
    conv => whnf
    refine ⟨trivial, rfl, r2F_u M _ rfl, ?_⟩
    rw [r2_at, e]
  · have e : ntF f p k = min f (8 * p + k) := if_neg f0
    refine ⟨fun _ => ?_, fun z => absurd (nI_ne0 (n := f) (by omega) (by omega)) z⟩
    refine am_run hX 4 _ _ _ _ ?_
    conv => whnf
    rw [h19, nI_min (by omega) (by omega), ← e]
    refine am_run hX 2 _ _ _ _ ?_
    conv => whnf
    exact ⟨trivial, rfl, r2F_u M _ rfl, r2_at _ _ _⟩
set_option maxRecDepth 100000 in
theorem ct_isD5 {c : Nat} (hc : c < 127) : am_M (d + 1) false nm_X5_isDigit [aI (nI c)] M (am_q1 (aI (b01 (isDg c))) M) := by
  refine ⟨rfl, rfl, rfl, fun X hX => am_run hX 3 _ _ _ _ ?_⟩
  conv => whnf
  by_cases h1 : c < 48
  · have e : isDg c = false := by unfold isDg; rw [decide_eq_false (by omega)]; rfl
    refine ⟨fun _ => ?_, fun z => absurd (nI_lt (a := c) (b := 48) h1 (by decide)) z⟩
    refine am_run hX 2 _ _ _ _ ?_
    conv => whnf
    rw [e]
    exact ⟨rfl, rfl, rfl⟩
  · refine ⟨fun z => absurd z (nI_nlt (a := c) (b := 48) (by omega) (by omega)), fun _ => ?_⟩
    refine am_run hX 3 _ _ _ _ ?_
    conv => whnf
    by_cases h2 : 57 < c
    · have e : isDg c = false := by unfold isDg; rw [decide_eq_false (show ¬ c ≤ 57 by omega), Bool.and_false]
      refine ⟨fun _ => ?_, fun z => absurd (nI_lt (a := 57) (b := c) h2 (by omega)) z⟩
      refine am_run hX 2 _ _ _ _ ?_
      conv => whnf
      rw [e]
      exact ⟨rfl, rfl, rfl⟩
    · have e : isDg c = true := by unfold isDg; rw [decide_eq_true (by omega), decide_eq_true (by omega)]; rfl
      refine ⟨fun z => absurd z (nI_nlt (a := 57) (b := c) (by omega) (by decide)), fun _ => ?_⟩
      refine am_run hX 3 _ _ _ _ ?_
      conv => whnf
      rw [e]
      exact ⟨rfl, rfl, rfl⟩
theorem isDg_w {c : Nat} (h : isDg c = true) : 48 ≤ c ∧ c ≤ 57 := by
  obtain ⟨a, b⟩ := (Bool.and_eq_true _ _).mp h
  exact ⟨of_decide_eq_true a, of_decide_eq_true b⟩
theorem ntF_l {f p k : Nat} (hf : f < 2 ^ 20) (hp : p ≤ 400) (hk : k < 8) : ntF f p k < 2 ^ 20 := by
  unfold ntF
  split <;> omega
theorem twF_l {fr sn f p w : Nat} (hf : f < 2 ^ 20) (hp : p ≤ 400) : twF fr sn f p w < 2 ^ 20 := by
  unfold twF
  split
  · exact ntF_l hf hp (by decide)
  · split
    · exact ntF_l hf hp (by decide)
    · exact hf
set_option maxRecDepth 100000 in
theorem ct_tellW {c fr sn f p : Nat} (hc : isDg c = true) (h11 : M.1 2 11 = nI fr) (hfr : fr ≤ 8) (h18 : M.1 2 18 = nI sn) (hsn : sn < 2 ^ 10) (h19 : M.1 2 19 = nI f) (hf : f < 2 ^ 20) (h9 : M.1 2 9 = nI p) (hp : p ≤ 400) : am_M (d + 2) false nm_X5_tellWire [aR 2, aI (nI c)] M (fun r N => r = .inl (some (aI (nI (2 ^ (c - 48))))) ∧ r2F [18, 19] M N ∧ N.1 2 18 = nI (sn ||| 2 ^ (c - 48)) ∧ N.1 2 19 = nI (twF fr sn f p (c - 48)) ∧ (sn ||| 2 ^ (c - 48)) < 2 ^ 10) := by
  obtain ⟨c1, c2⟩ := isDg_w hc
  have ew : nI c - 48 = nI (c - 48) := by rw [show (48 : Int32) = nI 48 from rfl, nI_sub (by omega)]
  generalize hw : c - 48 = w at *
  have w10 : w < 10 := by omega
  have p10 : 2 ^ w < 2 ^ 10 := Nat.pow_lt_pow_right (by decide) w10
  have sl : sn ||| 2 ^ w < 2 ^ 10 := Nat.or_lt_two_pow hsn p10
  have es : (1 : Int32) <<< (nI w &&& 31) = nI (2 ^ w) := by
    have : ∀ w, w < 10 → (1 : Int32) <<< (nI w &&& 31) = nI (2 ^ w) := by decide
    exact this w w10
  refine ⟨rfl, rfl, rfl, fun X hX => am_run hX 4 _ _ _ _ ?_⟩
  conv => whnf
  rw [ew]
  have fin : ∀ N, r2F [18, 19] M N → N.1 2 18 = nI sn → N.1 2 19 = nI (twF fr sn f p w) → X 45 [some (aR 2), some (aI (nI c)), some (aI (nI w))] [] N := by
    intro N hF e18 e19
    refine am_run hX 8 _ _ _ _ ?_
    conv => whnf
    rw [e18, es, nI_or]
    generalize hN1 : mm_i N 2 _ = N1
    have F1 : r2F [18, 19] M N1 := by rw [← hN1]; exact r2F_t hF (r2F_u N _ rfl)
    have a18 : N1.1 2 18 = nI (sn ||| 2 ^ w) := by rw [← hN1]; exact r2_at _ _ _
    have a19 : N1.1 2 19 = nI (twF fr sn f p w) := by rw [← hN1, mm_i1, up_ne (by decide)]; exact e19
    refine am_run hX 4 _ _ _ _ ?_
    conv => whnf
    rw [es]
    exact ⟨trivial, rfl, F1, a18, a19, sl⟩
  refine am_run hX 4 _ _ _ _ ?_
  conv => whnf
  rw [h11]
  by_cases q : fr ≤ w
  · have e : twF fr sn f p w = ntF f p 2 := if_pos q
    refine ⟨fun z => absurd z (nI_nlt q (by omega)), fun _ => ?_⟩
    refine am_run hX 5 _ _ _ _ ?_
    conv => whnf
    rw [h9]
    refine am_cq (ct_note5 (d := d) (M := M) (k := 2) hf (by omega) (by decide) h19) ?_
    rintro r1 N1 ⟨rfl, f1, e1⟩
    refine ⟨none, rfl, ?_⟩
    refine am_run hX 1 _ _ _ _ ?_
    conv => whnf
    exact fin N1 (r2F_w (by decide) f1) (by rw [f1.2.1 18 rfl]; exact h18) (by rw [e]; exact e1)
  · refine ⟨fun _ => ?_, fun z => absurd (nI_lt (by omega) (by omega)) z⟩
    have eb : (nI sn >>> (nI w &&& 31)) &&& 1 = nI (sn / 2 ^ w % 2) := by
      rw [show nI w &&& 31 = nI w from by
        have : ∀ w, w < 10 → nI w &&& 31 = nI w := by decide
        exact this w w10]
      rw [show nI sn >>> nI w = nI (sn / 2 ^ w) from by
        have : ∀ w, w < 10 → nI w = (nI w &&& 31) := by decide
        rw [this w w10]
        exact nI_sh (by omega) w (by omega)]
      exact nI_m1 _
    refine am_run hX 7 _ _ _ _ ?_
    conv => whnf
    rw [h18, eb]
    by_cases b : sn.testBit w = true
    · have e : twF fr sn f p w = ntF f p 3 := by unfold twF; rw [if_neg q, if_pos b]
      rw [(tb_d sn w).mp b]
      refine ⟨fun z => absurd z (by decide), fun _ => ?_⟩
      refine am_run hX 5 _ _ _ _ ?_
      conv => whnf
      rw [h9]
      refine am_cq (ct_note5 (d := d) (M := M) (k := 3) hf (by omega) (by decide) h19) ?_
      rintro r1 N1 ⟨rfl, f1, e1⟩
      refine ⟨none, rfl, ?_⟩
      exact fin N1 (r2F_w (by decide) f1) (by rw [f1.2.1 18 rfl]; exact h18) (by rw [e]; exact e1)
    · have e : twF fr sn f p w = f := by unfold twF; rw [if_neg q, if_neg b]
      have z0 : sn / 2 ^ w % 2 = 0 := by
        have : sn / 2 ^ w % 2 ≠ 1 := fun z => b ((tb_d sn w).mpr z)
        omega
      rw [z0]
      exact ⟨fun _ => fin M (r2F_r _ M) h18 (by rw [e]; exact h19), fun z => absurd rfl z⟩
end CRC
