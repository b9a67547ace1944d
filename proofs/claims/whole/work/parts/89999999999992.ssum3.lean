/-! THE REFERENCE'S settleSum: its third loop -/
theorem cnn_m (p : Nat → Bool) (i : Nat) : ∀ m, cntN p i ≤ cntN p (i + m)
  | 0 => Nat.le_refl _
  | m + 1 => by
    have := cnn_m p i m
    show cntN p i ≤ cntN p (i + m) + _
    omega
section SS3
variable {d n : Nat} {kk : Nat → Nat}
set_option maxRecDepth 100000 in
theorem ss_3 {P : am_Q} {X : am_X} {B : mm_M} {u v z : Int32} (hX : am_K (d + 1) false nm_X12_settleSum P X) (hn : n ≤ 22501) (h64 : B.1 108 64 = nI n) (hq : ∀ j, j < n → kk j < 65536 ∧ B.1 149 j = nI (kk j)) (hd : ∀ a b, a < n → b < n → kk a = kk b → a = b) (hc : cntN (fun j => nzJ (B.2 146 (kk j)) (B.2 147 (kk j))) n ≤ 150) (hP : ∀ N κ, frm B N → rws N κ (cntN (fun j => nzJ (B.2 146 (kk j)) (B.2 147 (kk j))) n) → (∀ x, (∃ j, j < cntN (fun j => nzJ (B.2 146 (kk j)) (B.2 147 (kk j))) n ∧ κ j = x) ↔ ∃ j, j < n ∧ kk j = x ∧ nzJ (B.2 146 x) (B.2 147 x) = true) → P (.inl (some (aI v))) N) : ∀ m i N κ, i + m = n → frm B N → rws N κ (cntN (fun j => nzJ (B.2 146 (kk j)) (B.2 147 (kk j))) i) → (∀ x, (∃ j, j < cntN (fun j => nzJ (B.2 146 (kk j)) (B.2 147 (kk j))) i ∧ κ j = x) ↔ ∃ j, j < i ∧ kk j = x ∧ nzJ (B.2 146 x) (B.2 147 x) = true) → X 128 [some (aR 108), some (aI u), some (aI v), some (aI z), some (aI (nI i))] [] N := by
  intro m
  induction m with
  | zero =>
    intro i N κ hi hf hr hm
    have hi : i = n := by omega
    subst hi
    refine am_run hX 20 _ _ _ _ ?_
    conv => whnf
    rw [show N.1 108 64 = nI i from by rw [hf.1 108 (by decide) (by decide) (by decide) (by decide)]; exact h64]
    refine ⟨fun _ => ?_, fun c => absurd (nI_le (by omega) (by omega)) c⟩
    conv => whnf
    exact ⟨trivial, hP N κ hf hr hm⟩
  | succ m ih =>
    intro i N κ hi hf hr hm
    obtain ⟨hk, ek⟩ := hq i (by omega)
    have e149 : N.1 149 i = nI (kk i) := by rw [hf.1 149 (by decide) (by decide) (by decide) (by decide)]; exact ek
    have e64 : N.1 108 64 = nI n := by rw [hf.1 108 (by decide) (by decide) (by decide) (by decide)]; exact h64
    have e2 : N.2 = B.2 := hf.2.1
    have hin : vp_in (nI (kk i)) 65536 := vp_in_nI hk (by decide)
    have hin2 : vp_in (nI i) 22501 := vp_in_nI (by omega) (by decide)
    have yes : nzJ (B.2 146 (kk i)) (B.2 147 (kk i)) = true → X 171 [some (aR 108), some (aI u), some (aI v), some (aI z), some (aI (nI i))] [] N := fun hz => by
      have e1 := cnn_1 (p := fun j => nzJ (B.2 146 (kk j)) (B.2 147 (kk j))) (n := i) hz
      have h1 := cnn_m (fun j => nzJ (B.2 146 (kk j)) (B.2 147 (kk j))) (i + 1) m
      rw [show i + 1 + m = n by omega] at h1
      have ih := ih (i + 1)
      rw [e1] at ih h1
      have hne : ∀ j, j < cntN (fun j => nzJ (B.2 146 (kk j)) (B.2 147 (kk j))) i → κ j ≠ kk i := fun j hj e => by
        obtain ⟨a, ha, ea, _⟩ := (hm (kk i)).mp ⟨j, hj, e⟩
        have := hd a i (by omega) (by omega) ea
        omega
      obtain ⟨p, hp, hlo, hhi⟩ := pl_ex _ hr.2.2.1 hne
      have key := ct_place (d := d) (M := N) (κ := κ) (k := kk i) (p := p) (by omega) hk hp hr.1 (fun j hj => ⟨(hr.2.2.2 j hj).2.1, (hr.2.2.2 j hj).1⟩) (fun j hj => Nat.le_of_lt (hlo j hj)) hhi
      refine am_run hX 8 _ _ _ _ ?_
      conv => whnf
      refine ⟨hin2, ?_⟩
      conv => whnf
      rw [nI_clamp (n := i) (by omega), e149]
      refine am_c0 key ?_
      conv => whnf
      rw [nI_1]
      refine ih _ (insN κ p (kk i)) (by omega) (frm_t hf (frm_pl hp (by omega))) (rws_pl hr (by omega) hk hp hlo hhi) fun x => ?_
      rw [insN_m hp, hm]
      constructor
      · rintro (e | ⟨j, hj, e3, e4⟩)
        · exact ⟨i, by omega, e.symm, by rw [e]; exact hz⟩
        · exact ⟨j, by omega, e3, e4⟩
      · rintro ⟨j, hj, e3, e4⟩
        by_cases ej : j = i
        · rw [ej] at e3
          exact Or.inl e3.symm
        · exact Or.inr ⟨j, by omega, e3, e4⟩
    refine am_run hX 4 _ _ _ _ ?_
    conv => whnf
    rw [e64]
    refine ⟨fun c => absurd c (nI_ge (by omega) (by omega)), fun _ => ?_⟩
    refine am_run hX 10 _ _ _ _ ?_
    conv => whnf
    refine ⟨hin2, ?_⟩
    conv => whnf
    rw [nI_clamp (n := i) (by omega), e149]
    refine ⟨hin, ?_⟩
    conv => whnf
    rw [nI_clamp (n := kk i) (by omega), e2, lg_0]
    refine ⟨fun c => ?_, fun c => ?_⟩
    · exact yes (decide_eq_true fun q => c q.1)
    · have c : B.2 146 (kk i) = 0 := Decidable.byContradiction c
      refine am_run hX 10 _ _ _ _ ?_
      conv => whnf
      refine ⟨hin2, ?_⟩
      conv => whnf
      rw [nI_clamp (n := i) (by omega), e149]
      refine ⟨hin, ?_⟩
      conv => whnf
      rw [nI_clamp (n := kk i) (by omega), e2, lg_0]
      refine ⟨fun c2 => ?_, fun c2 => ?_⟩
      · have hz : nzJ (B.2 146 (kk i)) (B.2 147 (kk i)) = false := decide_eq_false fun q => q ⟨c, c2⟩
        have e1 := cnn_0 (p := fun j => nzJ (B.2 146 (kk j)) (B.2 147 (kk j))) (n := i) hz
        have ih := ih (i + 1)
        rw [e1] at ih
        refine am_run hX 2 _ _ _ _ ?_
        conv => whnf
        rw [nI_1]
        refine ih N κ (by omega) hf hr fun x => ?_
        rw [hm]
        constructor
        · rintro ⟨j, hj, e3, e4⟩
          exact ⟨j, by omega, e3, e4⟩
        · rintro ⟨j, hj, e3, e4⟩
          by_cases ej : j = i
          · rw [← e3, ej, hz] at e4
            exact absurd e4 (by decide)
          · exact ⟨j, by omega, e3, e4⟩
      · exact yes (decide_eq_true fun q => c2 q.2)
end SS3
