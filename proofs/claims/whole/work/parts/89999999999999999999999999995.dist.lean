/-! code: the distance, by the least weight and by counts -/
section DST
variable {n s : Nat} {sy : Nat → Nat} {re : Nat → Int32}
theorem dsM_s (v : Nat) : dsM n s sy re (v + 1) = if cntB n s sy re v = true ∧ wN 8 v < dsM n s sy re v then wN 8 v else dsM n s sy re v := rfl
theorem dsM_a {u : Nat} (hc : cntB n s sy re u = true) : ∀ v, u < v → dsM n s sy re v ≤ wN 8 u
  | 0, h => absurd h (Nat.not_lt_zero _)
  | v + 1, h => by
    rw [dsM_s]
    by_cases e : u = v
    · subst e
      by_cases c : wN 8 u < dsM n s sy re u
      · rw [if_pos ⟨hc, c⟩]
        exact Nat.le_refl _
      · rw [if_neg (fun q => c q.2)]
        omega
    · have ih := dsM_a hc v (by omega)
      split
      · omega
      · exact ih
theorem dsM_b : ∀ v, dsM n s sy re v = 99 ∨ ∃ u, u < v ∧ cntB n s sy re u = true ∧ wN 8 u = dsM n s sy re v
  | 0 => Or.inl rfl
  | v + 1 => by
    rw [dsM_s]
    by_cases c : cntB n s sy re v = true ∧ wN 8 v < dsM n s sy re v
    · rw [if_pos c]
      exact Or.inr ⟨v, by omega, c.1, rfl⟩
    · rw [if_neg c]
      rcases dsM_b v with h | ⟨u, a, b, e⟩
      · exact Or.inl h
      · exact Or.inr ⟨u, by omega, b, e⟩
theorem dsL_a {p : Nat → Bool} : ∀ {m w k : Nat}, w ≤ k → k < w + m → p k = true → p (dsL p m w) = true ∧ w ≤ dsL p m w ∧ dsL p m w ≤ k
  | 0, w, k, h1, h2, _ => by omega
  | m + 1, w, k, h1, h2, h3 => by
    show p (if p w = true then w else dsL p m (w + 1)) = true ∧ w ≤ (if p w = true then w else dsL p m (w + 1)) ∧ (if p w = true then w else dsL p m (w + 1)) ≤ k
    by_cases c : p w = true
    · rw [if_pos c]
      exact ⟨c, Nat.le_refl _, h1⟩
    · rw [if_neg c]
      have hk : w + 1 ≤ k := by
        rcases Nat.lt_or_ge w k with q | q
        · exact q
        · have e : w = k := by omega
          subst e
          exact absurd h3 c
      have ih := dsL_a (m := m) hk (by omega) h3
      exact ⟨ih.1, by omega, ih.2.2⟩
theorem dist_eq (hii : ∀ w, 1 ≤ w → w ≤ n → (pD n s sy re w = true ↔ ∃ v, v < 4 ^ n ∧ cntB n s sy re v = true ∧ wN 8 v = w)) (hiii : ∃ v, v < 4 ^ n ∧ cntB n s sy re v = true) (hiv : ∀ v, v < 4 ^ n → cntB n s sy re v = true → 1 ≤ wN 8 v ∧ wN 8 v ≤ n) (hn : n ≤ 8) : dsM n s sy re (4 ^ n) = dsL (pD n s sy re) n 1 := by
  obtain ⟨v0, a0, b0⟩ := hiii
  have h0 := hiv v0 a0 b0
  have hle := dsM_a b0 (4 ^ n) a0
  rcases dsM_b (n := n) (s := s) (sy := sy) (re := re) (4 ^ n) with h | ⟨u, a, b, e⟩
  · omega
  · have h1 := hiv u a b
    have hp : pD n s sy re (wN 8 u) = true := (hii (wN 8 u) h1.1 h1.2).mpr ⟨u, a, b, rfl⟩
    have hd := dsL_a (p := pD n s sy re) (m := n) (w := 1) (k := wN 8 u) h1.1 (by omega) hp
    obtain ⟨v, c1, c2, c3⟩ := (hii (dsL (pD n s sy re) n 1) hd.2.1 (by omega)).mp hd.1
    have h2 := dsM_a c2 (4 ^ n) c1
    omega
/-- of two counts the greater one has more -/
theorem kN_sub {p q : Nat → Bool} : ∀ {k : Nat}, (∀ v, v < k → p v = true → q v = true) → kN p k ≤ kN q k ∧ (kN p k < kN q k ↔ ∃ v, v < k ∧ q v = true ∧ ¬ p v = true)
  | 0, _ => ⟨Nat.le_refl _, ⟨fun h => absurd h (Nat.lt_irrefl _), fun ⟨v, hv, _⟩ => absurd hv (Nat.not_lt_zero _)⟩⟩
  | k + 1, h => by
    obtain ⟨i1, i2⟩ := kN_sub (p := p) (q := q) (k := k) (fun v hv => h v (by omega))
    have hk := h k (by omega)
    show kN p k + (if p k = true then 1 else 0) ≤ kN q k + (if q k = true then 1 else 0) ∧ (kN p k + (if p k = true then 1 else 0) < kN q k + (if q k = true then 1 else 0) ↔ _)
    by_cases cp : p k = true
    · rw [if_pos cp, if_pos (hk cp)]
      refine ⟨by omega, ?_⟩
      constructor
      · intro hl
        obtain ⟨v, a, b, c⟩ := i2.mp (by omega)
        exact ⟨v, by omega, b, c⟩
      · rintro ⟨v, a, b, c⟩
        have e : v ≠ k := fun e => c (by rw [e]; exact cp)
        have := i2.mpr ⟨v, by omega, b, c⟩
        omega
    · rw [if_neg cp]
      by_cases cq : q k = true
      · rw [if_pos cq]
        exact ⟨by omega, ⟨fun _ => ⟨k, by omega, cq, cp⟩, fun _ => by omega⟩⟩
      · rw [if_neg cq]
        refine ⟨by omega, ?_⟩
        constructor
        · intro hl
          obtain ⟨v, a, b, c⟩ := i2.mp (by omega)
          exact ⟨v, by omega, b, c⟩
        · rintro ⟨v, a, b, c⟩
          have e : v ≠ k := fun e => cq (by rw [← e]; exact b)
          have := i2.mpr ⟨v, by omega, b, c⟩
          omega
end DST
