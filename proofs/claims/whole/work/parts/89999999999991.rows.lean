/-! THE REFERENCE'S SUM in order: what place keeps -/
def rws (M : mm_M) (κ : Nat → Nat) (c : Nat) : Prop := M.1 141 0 = nI c ∧ c ≤ 150 ∧ (∀ i j, i < j → j < c → κ i < κ j) ∧ ∀ j, j < c → κ j < 65536 ∧ M.1 143 j = nI (κ j) ∧ M.1 144 j = (M.2 146 (κ j)).toInt32 ∧ M.1 145 j = (M.2 147 (κ j)).toInt32
def frm (M M' : mm_M) : Prop := (∀ k, k ≠ 141 → k ≠ 143 → k ≠ 144 → k ≠ 145 → M'.1 k = M.1 k) ∧ M'.2 = M.2 ∧ (∀ j, j ≠ 0 → M'.1 141 j = M.1 141 j) ∧ ∀ j, 150 ≤ j → M'.1 143 j = M.1 143 j ∧ M'.1 144 j = M.1 144 j ∧ M'.1 145 j = M.1 145 j
theorem frm_r (M : mm_M) : frm M M := ⟨fun _ _ _ _ _ => rfl, rfl, fun _ _ => rfl, fun _ _ => ⟨rfl, rfl, rfl⟩⟩
theorem frm_t {M N K : mm_M} (h : frm M N) (h' : frm N K) : frm M K := by
  obtain ⟨a1, a2, a3, a4⟩ := h
  obtain ⟨b1, b2, b3, b4⟩ := h'
  refine ⟨fun k e1 e2 e3 e4 => (b1 k e1 e2 e3 e4).trans (a1 k e1 e2 e3 e4), b2.trans a2, fun j e => (b3 j e).trans (a3 j e), fun j e => ?_⟩
  obtain ⟨c1, c2, c3⟩ := a4 j e
  obtain ⟨d1, d2, d3⟩ := b4 j e
  exact ⟨d1.trans c1, d2.trans c2, d3.trans c3⟩
theorem ins_v (K : Nat → Int32) (p s : Nat) (v : Int32) (j : Nat) : ins K p s v j = if j = p then v else if p < j ∧ j ≤ s then K (j - 1) else K j := rfl
theorem frm_pl {M : mm_M} {p c k : Nat} (hp : p ≤ c) (hc : c < 150) : frm M (plM M p c k) := by
  refine ⟨fun j e1 e2 e3 e4 => ?_, rfl, fun j e => ?_, fun j e => ⟨?_, ?_, ?_⟩⟩
  · simp [plM, mm_i, e1, e2, e3, e4]
  · show upd (M.1 141) 0 (nI (c + 1)) j = M.1 141 j
    unfold upd
    rw [if_neg e]
  · show ins (M.1 143) p c (nI k) j = M.1 143 j
    rw [ins_v, if_neg (by omega), if_neg (by omega)]
  · show ins (M.1 144) p c _ j = M.1 144 j
    rw [ins_v, if_neg (by omega), if_neg (by omega)]
  · show ins (M.1 145) p c _ j = M.1 145 j
    rw [ins_v, if_neg (by omega), if_neg (by omega)]
/-- the place of a key -/
theorem pl_ex {κ : Nat → Nat} {k : Nat} : ∀ c, (∀ i j, i < j → j < c → κ i < κ j) → (∀ j, j < c → κ j ≠ k) → ∃ p, p ≤ c ∧ (∀ j, j < p → κ j < k) ∧ ∀ j, p ≤ j → j < c → k < κ j
  | 0, _, _ => ⟨0, Nat.le_refl _, fun j h => absurd h (Nat.not_lt_zero _), fun j _ h => absurd h (Nat.not_lt_zero _)⟩
  | c + 1, hs, hn => by
    by_cases h : κ c < k
    · refine ⟨c + 1, Nat.le_refl _, fun j hj => ?_, fun j h1 h2 => by omega⟩
      by_cases e : j = c
      · rw [e]
        exact h
      · have := hs j c (by omega) (by omega)
        omega
    · obtain ⟨p, hp, h1, h2⟩ := pl_ex c (fun i j a b => hs i j a (by omega)) (fun j hj => hn j (by omega))
      refine ⟨p, by omega, h1, fun j a b => ?_⟩
      by_cases e : j = c
      · rw [e]
        have := hn c (by omega)
        omega
      · exact h2 j a (by omega)
def insN (κ : Nat → Nat) (p k : Nat) : Nat → Nat := fun j => if j = p then k else if p < j then κ (j - 1) else κ j
theorem rws_pl {M : mm_M} {κ : Nat → Nat} {p c k : Nat} (h : rws M κ c) (hc : c < 150) (hk : k < 65536) (hp : p ≤ c) (hlo : ∀ j, j < p → κ j < k) (hhi : ∀ j, p ≤ j → j < c → k < κ j) : rws (plM M p c k) (insN κ p k) (c + 1) := by
  obtain ⟨r1, r2, r3, r4⟩ := h
  refine ⟨rfl, by omega, fun i j hij hj => ?_, fun j hj => ?_⟩
  · unfold insN
    by_cases e1 : i = p
    · rw [if_pos e1, if_neg (by omega), if_pos (by omega)]
      exact hhi (j - 1) (by omega) (by omega)
    · rw [if_neg e1]
      by_cases e2 : p < i
      · rw [if_pos e2, if_neg (by omega), if_pos (by omega)]
        exact r3 (i - 1) (j - 1) (by omega) (by omega)
      · rw [if_neg e2]
        by_cases e3 : j = p
        · rw [if_pos e3]
          exact hlo i (by omega)
        · rw [if_neg e3]
          by_cases e4 : p < j
          · rw [if_pos e4]
            have a := hlo i (by omega)
            have b := hhi (j - 1) (by omega) (by omega)
            omega
          · rw [if_neg e4]
            exact r3 i j hij (by omega)
  · show insN κ p k j < 65536 ∧ ins (M.1 143) p c (nI k) j = nI (insN κ p k j) ∧ ins (M.1 144) p c (M.2 146 k).toInt32 j = (M.2 146 (insN κ p k j)).toInt32 ∧ ins (M.1 145) p c (M.2 147 k).toInt32 j = (M.2 147 (insN κ p k j)).toInt32
    rw [ins_v, ins_v, ins_v]
    unfold insN
    by_cases e1 : j = p
    · rw [if_pos e1, if_pos e1, if_pos e1, if_pos e1]
      exact ⟨hk, rfl, rfl, rfl⟩
    · rw [if_neg e1, if_neg e1, if_neg e1, if_neg e1]
      by_cases e2 : p < j
      · rw [if_pos e2, if_pos (by omega), if_pos (by omega), if_pos (by omega)]
        exact r4 (j - 1) (by omega)
      · rw [if_neg e2, if_neg (by omega), if_neg (by omega), if_neg (by omega)]
        exact r4 j (by omega)
theorem insN_m {κ : Nat → Nat} {p c k x : Nat} (hp : p ≤ c) : (∃ j, j < c + 1 ∧ insN κ p k j = x) ↔ (x = k ∨ ∃ j, j < c ∧ κ j = x) := by
  unfold insN
  constructor
  · rintro ⟨j, hj, e⟩
    by_cases e1 : j = p
    · rw [if_pos e1] at e
      exact Or.inl e.symm
    · rw [if_neg e1] at e
      by_cases e2 : p < j
      · rw [if_pos e2] at e
        exact Or.inr ⟨j - 1, by omega, e⟩
      · rw [if_neg e2] at e
        exact Or.inr ⟨j, by omega, e⟩
  · rintro (e | ⟨j, hj, e⟩)
    · exact ⟨p, by omega, by rw [if_pos rfl, e]⟩
    · by_cases e1 : j < p
      · exact ⟨j, by omega, by rw [if_neg (by omega), if_neg (by omega), e]⟩
      · exact ⟨j + 1, by omega, by rw [if_neg (by omega), if_pos (by omega)]; exact e⟩
