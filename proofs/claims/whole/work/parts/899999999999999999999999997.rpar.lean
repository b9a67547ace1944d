/-! code: a TAPE's rows at the reference -/
/-- the next char that is no space -/
def nxS (T : Nat → Nat) : Nat → Nat → Nat
  | 0, i => i
  | m + 1, i => if T i = 32 then nxS T m (i + 1) else i
def nxQ (T : Nat → Nat) (t i : Nat) : Nat := nxS T (t - i) i
theorem nxS_ge (T : Nat → Nat) : ∀ m i, i ≤ nxS T m i ∧ nxS T m i ≤ i + m
  | 0, i => ⟨Nat.le_refl _, Nat.le_refl _⟩
  | m + 1, i => by
    have := nxS_ge T m (i + 1)
    unfold nxS
    split <;> omega
theorem nxS_sp (T : Nat → Nat) : ∀ m i, nxS T m i = i + m ∨ T (nxS T m i) ≠ 32
  | 0, i => Or.inl rfl
  | m + 1, i => by
    have := nxS_sp T m (i + 1)
    unfold nxS
    split
    · rcases this with h | h
      · exact Or.inl (by omega)
      · exact Or.inr h
    · rename_i h
      exact Or.inr h
theorem cpR_sp {T : Nat → Nat} {i : Nat} (h : T i = 32) : cpR T (i + 1) = cpR T i := by
  conv => lhs; unfold cpR
  cases cpR T i with
  | inr p => rfl
  | inl s => simp only [if_pos h]
theorem nxS_R (T : Nat → Nat) : ∀ m i, cpR T (nxS T m i) = cpR T i
  | 0, i => rfl
  | m + 1, i => by
    have := nxS_R T m (i + 1)
    unfold nxS
    split
    · rename_i h
      rw [this, cpR_sp h]
    · rfl
theorem nxQ_1 {T : Nat → Nat} {t i : Nat} (hi : i ≤ t) : i ≤ nxQ T t i ∧ nxQ T t i ≤ t ∧ (nxQ T t i = t ∨ T (nxQ T t i) ≠ 32) ∧ cpR T (nxQ T t i) = cpR T i := by
  have h1 := nxS_ge T (t - i) i
  have h2 := nxS_sp T (t - i) i
  unfold nxQ
  refine ⟨h1.1, by omega, ?_, nxS_R T _ i⟩
  rcases h2 with h | h
  · exact Or.inl (by omega)
  · exact Or.inr h
theorem nxQ_s {T : Nat → Nat} {t i : Nat} (hi : i = t ∨ T i ≠ 32) : nxQ T t i = i := by
  unfold nxQ
  cases hm : t - i with
  | zero => rfl
  | succ m =>
    unfold nxS
    rw [if_neg]
    rcases hi with h | h
    · omega
    · exact h
/-- what the reference sees -/
def seV (T : Nat → Nat) (t i : Nat) : Nat := if i < t then T i else 0
def saM (K : mm_M) (j : Nat) : mm_M := mm_i K 108 (upd (K.1 108) 3 (nI j))
theorem saM_2 (K : mm_M) (i j : Nat) : saM (saM K i) j = saM K j := by
  unfold saM
  rw [mm_i1, mm_ii, upd_two]
theorem saM_z {K : mm_M} {i : Nat} (h : K.1 108 3 = nI i) : saM K i = K := by
  unfold saM
  rw [← h, upd_self, mm_iz]
theorem saM_n (K : mm_M) (i : Nat) : mm_i (saM K i) 108 (upd ((saM K i).1 108) 3 ((saM K i).1 108 3 + 1)) = saM K (i + 1) := by
  have e : (saM K i).1 108 3 = nI i := rfl
  rw [e, nI_1]
  exact saM_2 K i (i + 1)
section RPA
variable {d : Nat} {M : mm_M} {T : Nat → Nat} {t : Nat}
set_option maxRecDepth 100000 in
theorem se_l {P : am_Q} {X : am_X} {K : mm_M} (hX : am_K d false nm_X12_see P X) (ht : t ≤ 400) (e2 : K.1 108 2 = nI t) (hT : ∀ j, j < t → K.1 109 j = nI (T j) ∧ T j < 127) : ∀ (m i : Nat), i + m = t → P (.inl (some (aI (nI (seV T t (nxS T m i)))))) (saM K (nxS T m i)) → X 0 [some (aR 108)] [] (saM K i) := by
  intro m
  induction m with
  | zero =>
    intro i e hP
    obtain rfl : i = t := by omega
    have ev : seV T i i = 0 := if_neg (Nat.lt_irrefl _)
    have e3 : (saM K i).1 108 3 = nI i := rfl
    have e4 : (saM K i).1 108 2 = nI i := e2
    refine am_run hX 12 _ _ _ _ ?_
    conv => whnf
    rw [e3, e4]
    refine ⟨fun _ => ?_, fun c => absurd (nI_le (Nat.le_refl _) (by omega)) c⟩
    conv => whnf
    rw [e3, e4]
    refine ⟨fun _ => ?_, fun c => absurd (nI_le (Nat.le_refl _) (by omega)) c⟩
    conv => whnf
    refine ⟨trivial, ?_⟩
    unfold nxS at hP
    rw [ev] at hP
    exact hP
  | succ m ih =>
    intro i e hP
    obtain ⟨eT, hT7⟩ := hT i (by omega)
    have e3 : (saM K i).1 108 3 = nI i := rfl
    have e4 : (saM K i).1 108 2 = nI t := e2
    have e9 : (saM K i).1 109 (nI i).toNatClampNeg = nI (T i) := by
      rw [nI_clamp (by omega)]
      exact eT
    refine am_run hX 12 _ _ _ _ ?_
    conv => whnf
    rw [e3, e4]
    refine ⟨fun c => absurd c (nI_ge (by omega) (by omega)), fun _ => ?_⟩
    conv => whnf
    rw [e3]
    refine ⟨vp_in_nI (by show i < 400; omega) (by decide), ?_⟩
    conv => whnf
    rw [e9]
    refine ⟨fun c => ?_, fun c => ?_⟩
    · have c0 : ¬ T i = 32 := fun e => c (by rw [e]; rfl)
      unfold nxS at hP
      rw [if_neg c0] at hP
      have ev : seV T t i = T i := if_pos (by omega)
      rw [ev] at hP
      refine am_run hX 12 _ _ _ _ ?_
      conv => whnf
      rw [e3, e4]
      refine ⟨fun c => absurd c (nI_ge (by omega) (by omega)), fun _ => ?_⟩
      conv => whnf
      rw [e3]
      refine ⟨vp_in_nI (by show i < 400; omega) (by decide), ?_⟩
      conv => whnf
      rw [e9]
      exact ⟨trivial, hP⟩
    · have c0 : T i = 32 := (nI_eq (b := 32) (by omega) (by decide)).mp (Classical.not_not.mp c)
      unfold nxS at hP
      rw [if_pos c0] at hP
      refine am_run hX 7 _ _ _ _ ?_
      conv => whnf
      rw [saM_n]
      exact ih (i + 1) (by omega) hP
set_option maxRecDepth 100000 in
theorem ct_sees {K : mm_M} {i : Nat} (ht : t ≤ 400) (hi : i ≤ t) (e3 : K.1 108 3 = nI i) (e2 : K.1 108 2 = nI t) (hT : ∀ j, j < t → K.1 109 j = nI (T j) ∧ T j < 127) : am_M (d + 1) false nm_X12_see [aR 108] K (am_q1 (aI (nI (seV T t (nxQ T t i)))) (saM K (nxQ T t i))) := by
  refine ⟨rfl, rfl, rfl, fun X hX => ?_⟩
  have h := se_l (d := d) (K := K) (P := am_q1 (aI (nI (seV T t (nxQ T t i)))) (saM K (nxQ T t i))) hX ht e2 hT (t - i) i (by omega) ⟨rfl, rfl⟩
  rw [saM_z e3] at h
  exact h
/-- what refuse leaves -/
def rfM (K : mm_M) (j : Nat) : mm_M := mm_i K 108 (upd (upd (upd (K.1 108) 3 (nI j)) 4 1) 5 (nI j))
set_option maxRecDepth 100000 in
theorem ct_refu {K : mm_M} {i : Nat} (ht : t ≤ 400) (hi : i ≤ t) (e3 : K.1 108 3 = nI i) (e2 : K.1 108 2 = nI t) (hT : ∀ j, j < t → K.1 109 j = nI (T j) ∧ T j < 127) : am_M (d + 2) false nm_X12_refuse [aR 108] K (am_q1 (aI 0) (rfM K (nxQ T t i))) := by
  refine ⟨rfl, rfl, rfl, fun X hX => am_run hX 12 _ _ _ _ ?_⟩
  conv => whnf
  refine am_c1 (ct_sees (d := d) ht hi e3 e2 hT) ?_
  conv => whnf
  refine ⟨rfl, rfl, ?_⟩
  have e5 : ((mm_i (saM K (nxQ T t i)) 108 (upd ((saM K (nxQ T t i)).1 108) 4 1)).1 108 3) = nI (nxQ T t i) := rfl
  rw [e5]
  unfold rfM saM
  rw [mm_i1, mm_i1, mm_ii, mm_ii]
set_option maxRecDepth 100000 in
theorem ct_lop {c : Nat} (hc : c < 127) : am_M (d + 1) false nm_X12_letterOfPauli [aI (nI c)] M (am_q1 (aI (if cpD c < 4 then nI (cpD c) else -1)) M) := by
  have hh : (if cpD c < 4 then nI (cpD c) else -1) = if nI c = 73 then (0 : Int32) else if nI c = 88 then 1 else if nI c = 89 then 2 else if nI c = 90 then 3 else -1 := (by decide +kernel : ∀ c, c < 127 → (if cpD c < 4 then nI (cpD c) else -1) = if nI c = 73 then (0 : Int32) else if nI c = 88 then 1 else if nI c = 89 then 2 else if nI c = 90 then 3 else -1) c hc
  rw [hh]
  refine ⟨rfl, rfl, rfl, fun X hX => am_run hX 16 _ _ _ _ ?_⟩
  conv => whnf
  refine ⟨fun c1 => ?_, fun c1 => ?_⟩
  · conv => whnf
    refine ⟨fun c2 => ?_, fun c2 => ?_⟩
    · conv => whnf
      refine ⟨fun c3 => ?_, fun c3 => ?_⟩
      · conv => whnf
        refine ⟨fun c4 => ?_, fun c4 => ?_⟩
        · conv => whnf
          exact ⟨trivial, by rw [if_neg c1, if_neg c2, if_neg c3, if_neg c4], rfl⟩
        · conv => whnf
          exact ⟨trivial, by rw [if_neg c1, if_neg c2, if_neg c3, if_pos (Classical.not_not.mp c4)], rfl⟩
      · conv => whnf
        exact ⟨trivial, by rw [if_neg c1, if_neg c2, if_pos (Classical.not_not.mp c3)], rfl⟩
    · conv => whnf
      exact ⟨trivial, by rw [if_neg c1, if_pos (Classical.not_not.mp c2)], rfl⟩
  · conv => whnf
    exact ⟨trivial, by rw [if_pos (Classical.not_not.mp c1)], rfl⟩
end RPA
