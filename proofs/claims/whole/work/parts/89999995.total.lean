/-! the pair total -/
def kkN (i : Nat) : Nat := ([0, 0, 1, 2, 3, 4, 0, 0, 5, 6, 7, 8, 0, 0, 0, 9, 10, 11, 0, 0, 0, 0, 12, 13, 0, 0, 0, 0, 0, 14, 0, 0, 0, 0, 0, 0] : List Nat).getD i 0
/-- the CHIP's links: the mask of one side, the row of the other -/
def ch_iv (M : mm_M) : Prop := ∃ g, g < 32768 ∧ M.1 70 12 = nI g ∧ ∀ i, i < 36 → i / 6 < i % 6 → M.1 195 i = nI (bt g (kkN i))
theorem ch_s (g : Nat) : sm (fun i => if i / 6 < i % 6 then bt g (kkN i) else 0) 36 = sm (bt g) 15 := by
  simp [sm, kkN]
section TOT
variable {d : Nat} {M : mm_M} {g : Nat}
theorem t_q : ∀ i, i < 36 → nI i / 6 = nI (i / 6) ∧ nI i - nI (i / 6) * 6 = nI (i % 6) := by decide +kernel
set_option maxRecDepth 100000 in
theorem tt_c {P : am_Q} {X : am_X} {v1 : Int32} (hX : am_K d false nm_X12_total P X) (hg : ∀ i, i < 36 → i / 6 < i % 6 → M.1 195 i = nI (bt g (kkN i))) (hK : ∀ l3, X 153 [some (aR 108), some (aI v1), some (aI (nI (sm (fun i => if i / 6 < i % 6 then bt g (kkN i) else 0) 36))), l3] [] M) : ∀ (m i : Nat), i + m = 36 → X 113 [some (aR 108), some (aI v1), some (aI (nI (sm (fun i => if i / 6 < i % 6 then bt g (kkN i) else 0) i))), some (aI (nI i))] [] M := by
  intro m
  induction m with
  | zero =>
    intro i hi
    have hi : i = 36 := by omega
    subst hi
    refine am_run hX 3 _ _ _ _ ?_
    conv => whnf
    exact ⟨fun _ => hK _, fun c => absurd (by decide) c⟩
  | succ m ih =>
    intro i hi
    have ih := ih (i + 1) (by omega)
    have e1 : sm (fun i => if i / 6 < i % 6 then bt g (kkN i) else 0) (i + 1) = sm (fun i => if i / 6 < i % 6 then bt g (kkN i) else 0) i + (if i / 6 < i % 6 then bt g (kkN i) else 0) := rfl
    rw [e1] at ih
    have ⟨t1, t2⟩ := t_q i (by omega)
    have z : (if i / 6 < i % 6 then bt g (kkN i) else 0) = 0 → X 144 [some (aR 108), some (aI v1), some (aI (nI (sm (fun i => if i / 6 < i % 6 then bt g (kkN i) else 0) i))), some (aI (nI i))] [aI (nI (sm (fun i => if i / 6 < i % 6 then bt g (kkN i) else 0) i))] M := fun e => by
      rw [e] at ih
      refine am_run hX 5 _ _ _ _ ?_
      conv => whnf
      rw [nI_1, show nI (sm (fun i => if i / 6 < i % 6 then bt g (kkN i) else 0) i) + 0 = nI (sm (fun i => if i / 6 < i % 6 then bt g (kkN i) else 0) i + 0) from nI_add _ 0]
      exact ih
    refine am_run hX 3 _ _ _ _ ?_
    conv => whnf
    refine ⟨fun c => absurd c (nI_ge (b := 36) (by omega) (by decide)), fun _ => ?_⟩
    refine am_run hX 8 _ _ _ _ ?_
    conv => whnf
    refine ⟨by decide, ?_⟩
    conv => whnf
    refine ⟨by decide, ?_⟩
    conv => whnf
    rw [t1, t2]
    by_cases lt : i / 6 < i % 6
    · refine ⟨fun c => absurd c (nI_ge lt (by omega)), fun _ => ?_⟩
      refine am_run hX 5 _ _ _ _ ?_
      conv => whnf
      refine ⟨vp_in_nI (by show i < 36; omega) (by decide), ?_⟩
      conv => whnf
      rw [nI_clamp (n := i) (by omega), hg i (by omega) lt]
      have b2 := bt_lt g (kkN i)
      by_cases q : bt g (kkN i) = 0
      · rw [q]
        exact ⟨fun _ => z (by rw [if_pos lt, q]), fun c => absurd rfl c⟩
      · have q1 : bt g (kkN i) = 1 := by omega
        rw [if_pos lt, q1] at ih
        rw [q1]
        refine ⟨fun c => absurd c (by decide), fun _ => ?_⟩
        refine am_run hX 6 _ _ _ _ ?_
        conv => whnf
        rw [nI_1, nI_1]
        exact ih
    · exact ⟨fun _ => z (if_neg lt), fun c => absurd (nI_le (by omega) (by omega)) c⟩
variable {n : Nat} {T : Nat → Bool}
set_option maxRecDepth 100000 in
theorem tt_d {P : am_Q} {X : am_X} {v1 : Int32} (hX : am_K d false nm_X12_total P X) (h98 : M.1 108 98 = 1) (hT : ∀ i, i < 60 → M.1 169 i = if T i = true then 1 else 0) (hK : ∀ l3, X 109 [some (aR 108), some (aI v1), some (aI (nI (sm (fun i => if T i = true then 1 else 0) 60))), l3] [] M) : ∀ (m i : Nat), i + m = 60 → X 73 [some (aR 108), some (aI v1), some (aI (nI (sm (fun i => if T i = true then 1 else 0) i))), some (aI (nI i))] [] M := by
  intro m
  induction m with
  | zero =>
    intro i hi
    have hi : i = 60 := by omega
    subst hi
    refine am_run hX 3 _ _ _ _ ?_
    conv => whnf
    exact ⟨fun _ => hK _, fun c => absurd (by decide) c⟩
  | succ m ih =>
    intro i hi
    have ih := ih (i + 1) (by omega)
    have e1 : sm (fun i => if T i = true then 1 else 0) (i + 1) = sm (fun i => if T i = true then 1 else 0) i + (if T i = true then 1 else 0) := rfl
    rw [e1] at ih
    refine am_run hX 3 _ _ _ _ ?_
    conv => whnf
    refine ⟨fun c => absurd c (nI_ge (b := 60) (by omega) (by decide)), fun _ => ?_⟩
    refine am_run hX 3 _ _ _ _ ?_
    conv => whnf
    rw [h98]
    refine ⟨fun c => absurd c (by decide), fun _ => ?_⟩
    refine am_run hX 6 _ _ _ _ ?_
    conv => whnf
    refine ⟨vp_in_nI (by show i < 60; omega) (by decide), ?_⟩
    conv => whnf
    rw [nI_clamp (n := i) (by omega), hT i (by omega)]
    cases q : T i
    · rw [q, if_neg (by decide)] at ih
      rw [if_neg (by decide)]
      refine ⟨fun _ => ?_, fun c => absurd rfl c⟩
      refine am_run hX 5 _ _ _ _ ?_
      conv => whnf
      rw [nI_1, show nI (sm (fun i => if T i = true then 1 else 0) i) + 0 = nI (sm (fun i => if T i = true then 1 else 0) i + 0) from nI_add _ 0]
      exact ih
    · rw [q, if_pos rfl] at ih
      rw [if_pos rfl]
      refine ⟨fun c => absurd c (by decide), fun _ => ?_⟩
      refine am_run hX 6 _ _ _ _ ?_
      conv => whnf
      rw [nI_1, nI_1]
      exact ih
end TOT
