/-! SHORTEST: the reference's findTwos whole -/
/-- what is kept: nothing yet, or all keys -/
def rsZ (N : mm_M) : Prop := (N.1 108 48 = 0 ∧ N.1 108 49 = 0 ∧ ∀ b, b < 32768 → N.1 139 b = 0) ∨ (N.1 108 48 = 1 ∧ ∃ n T fr yb B, fwI N n T fr yb B n 0)
def fwG (M N : mm_M) : Prop := (∀ k, k ≠ 108 → (k < 136 ∨ 139 < k) → N.1 k = M.1 k) ∧ N.2 = M.2 ∧ ∀ y, (y < 45 ∨ 49 < y) → N.1 108 y = M.1 108 y
theorem cz_0 : ∀ m, czB (fun _ => 0) m = 0
  | 0 => rfl
  | m + 1 => by
    show czB (fun _ => 0) m + (if 0 = 0 then 0 else 1) = 0
    rw [cz_0 m, if_pos rfl]
theorem rsZ_k : rsK rsZ := by
  intro M N h h1 h2 _
  have e48 := h2 48 (by decide) (by decide)
  have e49 := h2 49 (by decide) (by decide)
  rcases h with ⟨a, b, c⟩ | ⟨a, n, T, fr, yb, B, b⟩
  · exact Or.inl ⟨e48.trans a, e49.trans b, fun x hx => by rw [h1 139 (by decide) (by decide)]; exact c x hx⟩
  · refine Or.inr ⟨e48.trans a, n, T, fr, yb, B, ?_⟩
    obtain ⟨a1, a2, a3, a4, a5, a6⟩ := b
    refine ⟨a1, ?_, a3, fun j b c => by rw [h1 137 (by decide) (by decide)]; exact a4 j b c, fun j b => by rw [h1 138 (by decide) (by decide)]; exact a5 j b, a6⟩
    unfold twT at a2 ⊢
    rw [e49, h1 136 (by decide) (by decide), h1 139 (by decide) (by decide)]
    exact a2
section SHJ
variable {d : Nat} {M : mm_M}
set_option maxRecDepth 100000 in
theorem ct_sTwo : am_M (d + 1) false nm_X12_startTwo [] M (am_q1 (aI (nI (kK k4e))) M) := by
  refine ⟨rfl, rfl, rfl, fun X hX => am_run hX 2 _ _ _ _ ?_⟩
  conv => whnf
  exact ⟨trivial, rfl, rfl⟩
set_option maxRecDepth 100000 in
theorem ct_fTwos (h : rsZ M) : am_M (d + 6) false nm_X12_findTwos [aR 108] M (fun r N => r = .inl none ∧ fwG M N ∧ N.1 108 48 = 1 ∧ ∃ n T fr yb B, fwI N n T fr yb B n 0) := by
  refine ⟨rfl, rfl, rfl, fun X hX => am_run hX 3 _ _ _ _ ?_⟩
  conv => whnf
  rcases h with ⟨h48, h49, h139⟩ | ⟨h48, hh⟩
  · rw [h48]
    refine ⟨fun _ => ?_, fun z => absurd rfl z⟩
    refine am_run hX 5 _ _ _ _ ?_
    conv => whnf
    refine ⟨⟨rfl, rfl⟩, ?_⟩
    generalize hM1 : mm_i M 108 _ = N1
    have f0 : ∀ k, k ≠ 108 → N1.1 k = M.1 k := fun k hk => by rw [← hM1, mm_ne _ _ _ _ hk]
    have f1 : ∀ y, y ≠ 48 → N1.1 108 y = M.1 108 y := fun y hy => by rw [← hM1, mm_i1, up_ne hy]
    have f2 : N1.1 108 48 = 1 := by rw [← hM1, mm_i1]; exact up_at
    have f3 : N1.2 = M.2 := by rw [← hM1]; rfl
    have htw : twT N1 0 (fun _ => k4e) (fun _ => 0) := ⟨by rw [f1 49 (by decide)]; exact h49, by decide, fun i hi => absurd hi (Nat.not_lt_zero _), fun b hb => ⟨by rw [f0 139 (by decide)]; exact h139 b hb, Nat.le_refl _⟩, fun i hi => absurd hi (Nat.not_lt_zero _), cz_0 _⟩
    conv => whnf
    refine am_c1 (ct_sTwo (d := d + 4)) ?_
    refine am_run hX 3 _ _ _ _ ?_
    conv => whnf
    refine am_cq (ct_kTwo (d := d + 3) (M := N1) (t := k4e) (fr := -1) (g := 0) htw (by decide) k4e_k (by decide)) fun r2 N2 hq => ?_
    obtain ⟨rfl, k1, B', k2⟩ := hq
    refine ⟨none, rfl, ?_⟩
    refine am_run hX 2 _ _ _ _ ?_
    conv => whnf
    have hI : fwI N2 1 (upK (fun _ => k4e) 0 k4e) (fun _ => 0) (fun _ => 0) B' 0 0 := by
      refine ⟨⟨by decide, if_pos rfl, fun i a b => by omega, fun i j a b _ => by omega, fun i j a b c => by omega⟩, k2, fun j hj => ?_, fun j a b => by omega, fun j hj => ?_, fun p a b => by omega, fun j h a b c => by omega⟩
      · obtain rfl : j = 0 := by omega
        exact sym_e
      · obtain rfl : j = 0 := by omega
        rw [k1.2.2.2.2]
        exact up_at
    refine fw_i (d := d) (M := N1) hX (fun N n T fr yb B a b => ⟨rfl, ?_, ?_, n, T, fr, yb, B, b⟩) 11520 0 N2 1 _ _ _ B' _ _ (by omega) (fwF_k k1) hI (by omega)
    · exact ⟨fun k c e => (a.1 k c e).trans (f0 k c), a.2.1.trans f3, fun y c => (a.2.2 y (by omega) (by omega)).trans (f1 y (by omega))⟩
    · rw [a.2.2 48 (by omega) (by decide)]
      exact f2
  · rw [h48]
    refine ⟨fun z => absurd z (by decide), fun _ => ?_⟩
    refine am_run hX 1 _ _ _ _ ?_
    conv => whnf
    exact ⟨trivial, rfl, ⟨fun _ _ _ => rfl, rfl, fun _ _ => rfl⟩, h48, hh⟩
end SHJ
