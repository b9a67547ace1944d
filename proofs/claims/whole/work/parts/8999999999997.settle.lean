/-! THE CLASS'S settle, whole -/
/-- what was found can be kept -/
def stOK (n : Nat) (σ : Nat × (Nat → Int64) × (Nat → Int64)) : Bool := decide (σ.1 ≤ 60) && allN (fun j => smJ (σ.2.1 j) && smJ (σ.2.2 j)) n
theorem stl_le (n : Nat) : ∀ k f g, (stl n k f g).1 ≤ k
  | 0, _, _ => Nat.le_refl _
  | k + 1, f, g => by
    simp only [stl]
    by_cases h : allN (fun j => e1J (f j) (g j)) n = true
    · rw [if_pos h]
      have := stl_le n k (hqf n f) (hqf n g)
      omega
    · rw [if_neg h]
      exact Nat.le_refl _
section STW
variable {d n : Nat} {M : mm_M} {q : Nat → Int32} {f g : Nat → Int64}
set_option maxRecDepth 100000 in
theorem ct_settleN {u : Int32} (hn : 150 < n) (hn2 : n < 2 ^ 30) : am_M (d + 1) false nm_X9_settle [aR 83, aI u] (fF M n q f g) (am_q1 (aI 0) (fF M n q f g)) := by
  refine ⟨rfl, rfl, rfl, fun X hX => am_run hX 20 _ _ _ _ ?_⟩
  conv => whnf
  rw [show (fF M n q f g).1 83 11 = nI n from rfl]
  refine ⟨fun c => absurd c (nI_ge (a := 150) hn (by omega)), fun _ => ?_⟩
  conv => whnf
  exact ⟨rfl, rfl, rfl⟩
/-- what is kept in A -/
def kpA0 (N : mm_M) (n l : Nat) : mm_M := mm_i (mm_i (fA0 N n (N.1 98) (fun j => (N.2 99 j).toInt32) (fun j => (N.2 100 j).toInt32)) 96 (upd (N.1 96) 0 (nI n))) 97 (upd (N.1 97) 0 (nI l))
set_option maxRecDepth 100000 in
theorem ct_settle0 {over : Nat} (hn : n ≤ 150) (ho : over < 2 ^ 30) (e1 : M.1 84 0 = nI 0) (e2 : M.1 88 0 = nI 0) (e3 : M.1 92 0 = nI 0) : am_M (d + 3) false nm_X9_settle [aR 83, aI (nI over)] (fF M n q f g) (fun r M' => ∃ σ, σ = stl n (if n = 0 then 0 else over) f g ∧ ((stOK n σ = true ∧ r = .inl (some (aI 1)) ∧ M' = kpA0 (fF M n q σ.2.1 σ.2.2) n σ.1) ∨ (stOK n σ = false ∧ r = .inl (some (aI 0)) ∧ M' = fF M n q σ.2.1 σ.2.2))) := by
  have e : ∀ f' g', (fF M n q f' g').1 83 11 = nI n := fun _ _ => rfl
  refine ⟨rfl, rfl, rfl, fun X hX => ?_⟩
  have fin : ∀ k, k = (if n = 0 then 0 else over) → ∀ l, X 25 [some (aR 83), some (aI (nI over)), some (aI (nI k)), l] [] (fF M n q f g) := by
    intro k hk l
    have hk2 : k < 2 ^ 30 := by
      by_cases h : n = 0
      · rw [if_pos h] at hk
        omega
      · rw [if_neg h] at hk
        omega
    rw [← hk] at hX
    have hle := stl_le n k f g
    refine so_l (d := d) (M := M) (q := q) hX hn k f g l hk2 fun l => ?_
    generalize stl n k f g = σ at *
    refine am_run hX 30 _ _ _ _ ?_
    conv => whnf
    by_cases h60 : σ.1 ≤ 60
    · refine ⟨fun c => absurd c (nI_nlt (a := 60) (b := σ.1) h60 (by decide)), fun _ => ?_⟩
      conv => whnf
      rw [e]
      refine am_c1 (ct_allFit (d := d) hn) ?_
      cases ha : allN (fun j => smJ (σ.2.1 j) && smJ (σ.2.2 j)) n with
      | false =>
        conv => whnf
        refine ⟨fun _ => ?_, fun c => absurd rfl c⟩
        conv => whnf
        refine ⟨rfl, σ, rfl, Or.inr ⟨?_, rfl, rfl⟩⟩
        unfold stOK
        rw [ha, Bool.and_false]
      | true =>
        conv => whnf
        refine ⟨fun c => absurd c (by decide), fun _ => ?_⟩
        conv => whnf
        rw [e]
        refine am_c1 (ct_become0 (d := d + 1) (N := fF M n q σ.2.1 σ.2.2) hn e1 e2 e3) ?_
        conv => whnf
        refine ⟨fun c => absurd c (by decide), fun _ => ?_⟩
        conv => whnf
        refine ⟨rfl, σ, rfl, Or.inl ⟨?_, rfl, rfl⟩⟩
        unfold stOK
        rw [ha, decide_eq_true h60]
        rfl
    · refine ⟨fun _ => ?_, fun c => absurd (nI_lt (a := 60) (b := σ.1) (by omega) (by omega)) c⟩
      conv => whnf
      refine ⟨rfl, σ, rfl, Or.inr ⟨?_, rfl, rfl⟩⟩
      unfold stOK
      rw [decide_eq_false h60]
      rfl
  refine am_run hX 4 _ _ _ _ ?_
  conv => whnf
  rw [e]
  refine ⟨fun _ => ?_, fun c => absurd (nI_le (a := n) (b := 150) hn (by decide)) c⟩
  refine am_run hX 3 _ _ _ _ ?_
  conv => whnf
  rw [e]
  by_cases h0 : n = 0
  · have f0 := fin 0 (by rw [if_pos h0]) none
    rw [show nI n = 0 from by rw [h0]; rfl]
    refine ⟨fun c => absurd rfl c, fun _ => ?_⟩
    refine am_run hX 3 _ _ _ _ ?_
    conv => whnf
    exact f0
  · have f0 := fin over (by rw [if_neg h0]) none
    refine ⟨fun _ => ?_, fun c => absurd (nI_ne0 (by omega) (by omega)) c⟩
    refine am_run hX 2 _ _ _ _ ?_
    conv => whnf
    exact f0
/-- what is kept in A -/
def kpA1 (N : mm_M) (n l : Nat) : mm_M := mm_i (mm_i (fA1 N n (N.1 98) (fun j => (N.2 99 j).toInt32) (fun j => (N.2 100 j).toInt32)) 96 (upd (N.1 96) 0 (nI n))) 97 (upd (N.1 97) 0 (nI l))
set_option maxRecDepth 100000 in
theorem ct_settle1 {over : Nat} (hn : n ≤ 150) (ho : over < 2 ^ 30) (e1 : M.1 84 0 = nI 1) (e2 : M.1 88 0 = nI 1) (e3 : M.1 92 0 = nI 1) : am_M (d + 3) false nm_X9_settle [aR 83, aI (nI over)] (fF M n q f g) (fun r M' => ∃ σ, σ = stl n (if n = 0 then 0 else over) f g ∧ ((stOK n σ = true ∧ r = .inl (some (aI 1)) ∧ M' = kpA1 (fF M n q σ.2.1 σ.2.2) n σ.1) ∨ (stOK n σ = false ∧ r = .inl (some (aI 0)) ∧ M' = fF M n q σ.2.1 σ.2.2))) := by
  have e : ∀ f' g', (fF M n q f' g').1 83 11 = nI n := fun _ _ => rfl
  refine ⟨rfl, rfl, rfl, fun X hX => ?_⟩
  have fin : ∀ k, k = (if n = 0 then 0 else over) → ∀ l, X 25 [some (aR 83), some (aI (nI over)), some (aI (nI k)), l] [] (fF M n q f g) := by
    intro k hk l
    have hk2 : k < 2 ^ 30 := by
      by_cases h : n = 0
      · rw [if_pos h] at hk
        omega
      · rw [if_neg h] at hk
        omega
    rw [← hk] at hX
    have hle := stl_le n k f g
    refine so_l (d := d) (M := M) (q := q) hX hn k f g l hk2 fun l => ?_
    generalize stl n k f g = σ at *
    refine am_run hX 30 _ _ _ _ ?_
    conv => whnf
    by_cases h60 : σ.1 ≤ 60
    · refine ⟨fun c => absurd c (nI_nlt (a := 60) (b := σ.1) h60 (by decide)), fun _ => ?_⟩
      conv => whnf
      rw [e]
      refine am_c1 (ct_allFit (d := d) hn) ?_
      cases ha : allN (fun j => smJ (σ.2.1 j) && smJ (σ.2.2 j)) n with
      | false =>
        conv => whnf
        refine ⟨fun _ => ?_, fun c => absurd rfl c⟩
        conv => whnf
        refine ⟨rfl, σ, rfl, Or.inr ⟨?_, rfl, rfl⟩⟩
        unfold stOK
        rw [ha, Bool.and_false]
      | true =>
        conv => whnf
        refine ⟨fun c => absurd c (by decide), fun _ => ?_⟩
        conv => whnf
        rw [e]
        refine am_c1 (ct_become1 (d := d + 1) (N := fF M n q σ.2.1 σ.2.2) hn e1 e2 e3) ?_
        conv => whnf
        refine ⟨fun c => absurd c (by decide), fun _ => ?_⟩
        conv => whnf
        refine ⟨rfl, σ, rfl, Or.inl ⟨?_, rfl, rfl⟩⟩
        unfold stOK
        rw [ha, decide_eq_true h60]
        rfl
    · refine ⟨fun _ => ?_, fun c => absurd (nI_lt (a := 60) (b := σ.1) (by omega) (by omega)) c⟩
      conv => whnf
      refine ⟨rfl, σ, rfl, Or.inr ⟨?_, rfl, rfl⟩⟩
      unfold stOK
      rw [decide_eq_false h60]
      rfl
  refine am_run hX 4 _ _ _ _ ?_
  conv => whnf
  rw [e]
  refine ⟨fun _ => ?_, fun c => absurd (nI_le (a := n) (b := 150) hn (by decide)) c⟩
  refine am_run hX 3 _ _ _ _ ?_
  conv => whnf
  rw [e]
  by_cases h0 : n = 0
  · have f0 := fin 0 (by rw [if_pos h0]) none
    rw [show nI n = 0 from by rw [h0]; rfl]
    refine ⟨fun c => absurd rfl c, fun _ => ?_⟩
    refine am_run hX 3 _ _ _ _ ?_
    conv => whnf
    exact f0
  · have f0 := fin over (by rw [if_neg h0]) none
    refine ⟨fun _ => ?_, fun c => absurd (nI_ne0 (by omega) (by omega)) c⟩
    refine am_run hX 2 _ _ _ _ ?_
    conv => whnf
    exact f0
end STW
