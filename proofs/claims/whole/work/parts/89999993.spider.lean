/-! the DIAGRAM; the pair spider -/
/-- what stands in it: which are there, their phases, their edges -/
def wb_s (M : mm_M) (m : Nat) (T : Nat → Bool) (ph : Nat → Nat) (E : Nat → Nat → Nat) : Prop := m ≤ 60 ∧ (∀ i, T i = true → i < m) ∧ M.1 39 6 = nI m ∧ M.1 108 98 = 1 ∧ (∀ i, i < 64 → (M.2 39 10).toBitVec.getLsbD i = T i) ∧ (∀ i, i < 60 → M.1 169 i = if T i = true then 1 else 0) ∧ ∀ i, T i = true → ph i < 8 ∧ M.1 42 i = nI (ph i) ∧ M.1 170 i = nI (ph i) ∧ (∀ j, E i j ≤ 2 ∧ (60 ≤ j → E i j = 0)) ∧ (∀ j, j < 64 → (M.2 40 i).toBitVec.getLsbD j = decide (E i j = 1) ∧ (M.2 41 i).toBitVec.getLsbD j = decide (E i j = 2)) ∧ ∀ j, j < 60 → M.1 171 (60 * i + j) = nI (E i j)
def wb_iv (M : mm_M) : Prop := (M.1 39 6 = 0 ∧ M.1 108 98 = 0) ∨ ∃ m T ph E, wb_s M m T ph E
theorem lz_0 (x : Int64) : lg_cmp (x &&& 1) 0 = 0 ↔ x.toBitVec.getLsbD 0 = false := by
  rw [lg_0]
  exact bw_and x 0 (by decide)
theorem lb_us {x : Int64} {i : Nat} (hi : i < 64) : lg_cmp ((x.toUInt64 >>> ((nI i).toInt64.toUInt64 &&& Int64.toUInt64 63)).toInt64 &&& 1) 0 = 0 ↔ x.toBitVec.getLsbD i = false := by
  rw [lz_0, us_b hi 0, Nat.add_zero]
section SPI
variable {d : Nat} {M : mm_M} {m : Nat} {T : Nat → Bool} {ph : Nat → Nat} {E : Nat → Nat → Nat}
set_option maxRecDepth 100000 in
theorem sp_th {p : Int32} (h : wb_s M m T ph E) : am_M (d + 1) false nm_X10_isThere [aR 39, aI p] M (am_q1 (aI (nI (iteC (∃ i, T i = true ∧ p = nI i) 1 0))) M) := by
  obtain ⟨h1, h2, h3, h4, h5, h6, h7⟩ := h
  refine ⟨rfl, rfl, rfl, fun X hX => am_run hX 40 _ _ _ _ ?_⟩
  conv => whnf
  refine ⟨fun c => ?_, fun c => ?_⟩
  · conv => whnf
    rw [iteC_f (fun ⟨i, t, e⟩ => by rw [e] at c; have := h2 i t; exact nI_pos (by omega) c)]
    exact ⟨rfl, rfl, rfl⟩
  · obtain ⟨i, hi, rfl⟩ := nI_of c
    have inj : ∀ j, T j = true → nI i = nI j → i = j := fun j t e => by
      have := h2 j t
      exact (nI_eq hi (by omega)).mp e
    conv => whnf
    rw [h3]
    refine ⟨fun c2 => ?_, fun c2 => ?_⟩
    · conv => whnf
      rw [iteC_f (fun ⟨j, t, e⟩ => by
        have ej := inj j t e
        have := h2 j t
        exact nI_ge (a := i) (b := m) (by omega) (by omega) c2)]
      exact ⟨rfl, rfl, rfl⟩
    · have im : i < m := Nat.lt_of_not_le fun q => c2 (nI_le q hi)
      conv => whnf
      have key := lb_us (x := M.2 39 10) (i := i) (by omega)
      rw [h5 i (by omega)] at key
      refine ⟨fun c3 => ?_, fun c3 => ?_⟩
      · have tf := key.mp c3
        conv => whnf
        rw [iteC_f (fun ⟨j, t, e⟩ => by rw [inj j t e, t] at tf; cases tf)]
        exact ⟨rfl, rfl, rfl⟩
      · have tt : T i = true := by
          cases q : T i
          · exact absurd (key.mpr q) c3
          · rfl
        conv => whnf
        rw [iteC_t ⟨i, tt, rfl⟩]
        exact ⟨rfl, rfl, rfl⟩
set_option maxRecDepth 100000 in
theorem sp_ek {i j : Nat} (h : wb_s M m T ph E) (t : T i = true) (hj : j < 60) : am_M (d + 1) false nm_X10_edgeKind [aR 39, aI (nI i), aI (nI j)] M (am_q1 (aI (nI (E i j))) M) := by
  obtain ⟨h1, h2, h3, h4, h5, h6, h7⟩ := h
  have im := h2 i t
  obtain ⟨k1, k2, k3, k4, k5, k6⟩ := h7 i t
  have ⟨g1, g2⟩ := k5 j (by omega)
  have e2 := (k4 j).1
  refine ⟨rfl, rfl, rfl, fun X hX => am_run hX 40 _ _ _ _ ?_⟩
  conv => whnf
  refine ⟨vp_in_nI (by show i < 60; omega) (by decide), ?_⟩
  conv => whnf
  rw [nI_clamp (n := i) (by omega)]
  have ka := lb_us (x := M.2 40 i) (i := j) (by omega)
  have kb := lb_us (x := M.2 41 i) (i := j) (by omega)
  rw [g1] at ka
  rw [g2] at kb
  refine ⟨fun c => ?_, fun c => ?_⟩
  · have n1 : E i j ≠ 1 := by simpa using ka.mp c
    conv => whnf
    refine ⟨vp_in_nI (by show i < 60; omega) (by decide), ?_⟩
    conv => whnf
    rw [nI_clamp (n := i) (by omega)]
    refine ⟨fun c => ?_, fun c => ?_⟩
    · have n2 : E i j ≠ 2 := by simpa using kb.mp c
      conv => whnf
      rw [show E i j = 0 by omega]
      exact ⟨trivial, rfl, rfl⟩
    · have y : E i j = 2 := by
        apply Decidable.byContradiction
        intro q
        exact c (kb.mpr (by simpa using q))
      conv => whnf
      rw [y]
      exact ⟨trivial, rfl, rfl⟩
  · have y : E i j = 1 := by
      apply Decidable.byContradiction
      intro q
      exact c (ka.mpr (by simpa using q))
    conv => whnf
    rw [y]
    exact ⟨trivial, rfl, rfl⟩
set_option maxRecDepth 100000 in
theorem sm_is {p : Int32} (h : wb_s M m T ph E) : am_M (d + 1) false nm_X12_isSpider [aR 108, aI p] M (am_q1 (aI (nI (iteC (∃ i, T i = true ∧ p = nI i) 1 0))) M) := by
  obtain ⟨h1, h2, h3, h4, h5, h6, h7⟩ := h
  refine ⟨rfl, rfl, rfl, fun X hX => am_run hX 40 _ _ _ _ ?_⟩
  conv => whnf
  rw [h4]
  refine ⟨fun c => absurd c (by decide), fun _ => ?_⟩
  conv => whnf
  refine ⟨fun c => ?_, fun c => ?_⟩
  · conv => whnf
    rw [iteC_f (fun ⟨i, t, e⟩ => by rw [e] at c; have := h2 i t; exact nI_pos (by omega) c)]
    exact ⟨rfl, rfl, rfl⟩
  · obtain ⟨i, hi, rfl⟩ := nI_of c
    have inj : ∀ j, T j = true → nI i = nI j → i = j := fun j t e => by
      have := h2 j t
      exact (nI_eq hi (by omega)).mp e
    conv => whnf
    refine ⟨fun c2 => ?_, fun c2 => ?_⟩
    · conv => whnf
      rw [iteC_f (fun ⟨j, t, e⟩ => by
        have ej := inj j t e
        have := h2 j t
        exact nI_ge (a := i) (b := 60) (by omega) (by decide) c2)]
      exact ⟨rfl, rfl, rfl⟩
    · have im : i < 60 := Nat.lt_of_not_le fun q => c2 (nI_le (a := 60) q hi)
      conv => whnf
      refine ⟨vp_in_nI (by show i < 60; omega) (by decide), ?_⟩
      conv => whnf
      rw [nI_clamp (n := i) (by omega), h6 i im]
      cases q : T i
      · rw [if_neg (by decide)]
        refine ⟨fun _ => ?_, fun z => absurd rfl z⟩
        conv => whnf
        rw [iteC_f (fun ⟨j, t, e⟩ => by rw [inj j t e, t] at q; cases q)]
        exact ⟨rfl, rfl, rfl⟩
      · rw [if_pos rfl]
        refine ⟨fun z => absurd z (by decide), fun _ => ?_⟩
        conv => whnf
        rw [iteC_t ⟨i, q, rfl⟩]
        exact ⟨rfl, rfl, rfl⟩
set_option maxRecDepth 100000 in
theorem sm_eo {i j : Nat} (h : wb_s M m T ph E) (t : T i = true) (hj : j < 60) : am_M (d + 1) false nm_X12_edgeOf [aR 108, aI (nI i), aI (nI j)] M (am_q1 (aI (nI (E i j))) M) := by
  obtain ⟨h1, h2, h3, h4, h5, h6, h7⟩ := h
  have im := h2 i t
  obtain ⟨k1, k2, k3, k4, k5, k6⟩ := h7 i t
  refine ⟨rfl, rfl, rfl, fun X hX => am_run hX 40 _ _ _ _ ?_⟩
  conv => whnf
  rw [show (60 : Int32) * nI i + nI j = nI (60 * i + j) from by rw [show (60 : Int32) = nI 60 from rfl, nI_mul, nI_add]]
  refine ⟨vp_in_nI (by show _ < 3600; omega) (by decide), ?_⟩
  conv => whnf
  rw [nI_clamp (n := 60 * i + j) (by omega), k6 j hj]
  exact ⟨trivial, rfl, rfl⟩
set_option maxRecDepth 100000 in
theorem sm_el {P : am_Q} {X : am_X} {i : Nat} (hX : am_K (d + 1) false nm_X12_edgesOf P X) (h : wb_s M m T ph E) (t : T i = true) (hK : ∀ l3, X 33 [some (aR 108), some (aI (nI i)), some (aI (nI (sm (fun j => if E i j = 0 then 0 else 1) 60))), l3] [] M) : ∀ (k j : Nat), j + k = 60 → X 4 [some (aR 108), some (aI (nI i)), some (aI (nI (sm (fun j => if E i j = 0 then 0 else 1) j))), some (aI (nI j))] [] M := by
  intro k
  induction k with
  | zero =>
    intro j hj
    have hj : j = 60 := by omega
    subst hj
    refine am_run hX 3 _ _ _ _ ?_
    conv => whnf
    exact ⟨fun _ => hK _, fun c => absurd (by decide) c⟩
  | succ k ih =>
    intro j hj
    have ih := ih (j + 1) (by omega)
    have e1 : sm (fun j => if E i j = 0 then 0 else 1) (j + 1) = sm (fun j => if E i j = 0 then 0 else 1) j + (if E i j = 0 then 0 else 1) := rfl
    rw [e1] at ih
    refine am_run hX 3 _ _ _ _ ?_
    conv => whnf
    refine ⟨fun c => absurd c (nI_ge (b := 60) (by omega) (by decide)), fun _ => ?_⟩
    refine am_run hX 6 _ _ _ _ ?_
    conv => whnf
    refine am_c1 (sm_eo h t (by omega)) ?_
    conv => whnf
    have e2 := ((h.2.2.2.2.2.2 i t).2.2.2.1 j).1
    by_cases q : E i j = 0
    · rw [if_pos q] at ih
      rw [q]
      refine ⟨fun _ => ?_, fun z => absurd rfl z⟩
      refine am_run hX 5 _ _ _ _ ?_
      conv => whnf
      rw [nI_1, show nI (sm (fun j => if E i j = 0 then 0 else 1) j) + 0 = nI (sm (fun j => if E i j = 0 then 0 else 1) j + 0) from nI_add _ 0]
      exact ih
    · rw [if_neg q] at ih
      refine ⟨fun z => absurd ((nI_eq (b := 0) (by omega) (by decide)).mp z) q, fun _ => ?_⟩
      refine am_run hX 6 _ _ _ _ ?_
      conv => whnf
      rw [nI_1, nI_1]
      exact ih
set_option maxRecDepth 100000 in
theorem sm_es {i : Nat} (h : wb_s M m T ph E) (t : T i = true) : am_M (d + 2) false nm_X12_edgesOf [aR 108, aI (nI i)] M (am_q1 (aI (nI (sm (fun j => if E i j = 0 then 0 else 1) 60))) M) := by
  refine ⟨rfl, rfl, rfl, fun X hX => am_run hX 4 _ _ _ _ ?_⟩
  conv => whnf
  refine sm_el hX h t (fun l3 => ?_) 60 0 (by omega)
  refine am_run hX 2 _ _ _ _ ?_
  conv => whnf
  exact ⟨trivial, rfl, rfl⟩
theorem sm_e {f g : Nat → Nat} : ∀ n, (∀ t, t < n → f t = g t) → sm f n = sm g n
  | 0, _ => rfl
  | n + 1, h => by
    show sm f n + f n = sm g n + g n
    rw [sm_e n (fun t ht => h t (by omega)), h n (by omega)]
theorem bt_tb (x : Int64) {j : Nat} (hj : j < 64) : bt x.toBitVec.toNat j = if x.toBitVec.getLsbD j = true then 1 else 0 := by
  show x.toBitVec.toNat / 2 ^ j % 2 = _
  have e : x.toBitVec.getLsbD j = x.toBitVec.toNat.testBit j := rfl
  rw [e, Nat.testBit_eq_decide_div_mod_eq]
  by_cases q : x.toBitVec.toNat / 2 ^ j % 2 = 1
  · rw [q]; rfl
  · rw [if_neg (by simpa using q)]; omega
theorem sp_ct {i : Nat} (h : wb_s M m T ph E) (t : T i = true) : lbc (M.2 40 i ||| M.2 41 i) = nI (sm (fun j => if E i j = 0 then 0 else 1) 60) := by
  obtain ⟨h1, h2, h3, h4, h5, h6, h7⟩ := h
  obtain ⟨k1, k2, k3, k4, k5, k6⟩ := h7 i t
  rw [lbc_p, pcn_sm, sm_e (g := fun j => if E i j = 0 then 0 else 1) 64 (fun j hj => by
    have ⟨g1, g2⟩ := k5 j hj
    have e2 := (k4 j).1
    rw [bt_tb _ hj, Int64.toBitVec_or, BitVec.getLsbD_or, g1, g2]
    rcases (by omega : E i j = 0 ∨ E i j = 1 ∨ E i j = 2) with q | q | q <;> rw [q] <;> rfl)]
  congr 1
  have z : ∀ j, 60 ≤ j → (if E i j = 0 then 0 else 1) = 0 := fun j hj => if_pos ((k4 j).2 hj)
  show sm (fun j => if E i j = 0 then 0 else 1) 60 + (if E i 60 = 0 then 0 else 1) + (if E i 61 = 0 then 0 else 1) + (if E i 62 = 0 then 0 else 1) + (if E i 63 = 0 then 0 else 1) = _
  rw [z 60 (by decide), z 61 (by decide), z 62 (by decide), z 63 (by decide)]
  simp only [Nat.add_zero]
end SPI
