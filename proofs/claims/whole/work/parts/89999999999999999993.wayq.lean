/-! DIAGRAMS: one way of a MEANING: both count the same eighths -/
theorem wy_iff {m inp : Nat} {W : WB} {u : Nat → Bool} (g : gdW m inp W) : wyC W u m ↔ wyR W u := by
  constructor
  · intro h i j hj e
    have lt : ∀ x y, W.2.2 x y = 1 → x < m := fun x y e => g.2.2.2.2.1 x (g.2.2.2.2.2.2.2.2.2.1 x y (by omega)).1
    have e' : W.2.2 j i = 1 := by rw [g.2.2.2.2.2.2.1]; exact e
    cases hi : u i with
    | true => rw [h i (lt i j e) hi j e]
    | false =>
      cases hj2 : u j with
      | false => rfl
      | true =>
        have := h j (lt j i e') hj2 i e'
        rw [hi] at this
        exact absurd this (by decide)
  · intro h i hi hu j e
    rcases Nat.lt_trichotomy i j with k | k | k
    · rw [h j i k (by rw [g.2.2.2.2.2.2.1]; exact e)]
      exact hu
    · rw [← k]
      exact hu
    · rw [← h i j k e]
      exact hu
theorem sm_a {f h : Nat → Nat} : ∀ n, sm (fun t => f t + h t) n = sm f n + sm h n
  | 0 => rfl
  | n + 1 => by
    show sm (fun t => f t + h t) n + (f n + h n) = (sm f n + f n) + (sm h n + h n)
    rw [sm_a n]
    omega
theorem sm_k {f : Nat → Nat} {c : Nat} : ∀ n, sm (fun t => c * f t) n = c * sm f n
  | 0 => rfl
  | n + 1 => by
    show sm (fun t => c * f t) n + c * f n = c * (sm f n + f n)
    rw [sm_k n, Nat.mul_add]
theorem sm_sw {f : Nat → Nat → Nat} {k : Nat} : ∀ n, sm (fun i => sm (fun j => f i j) k) n = sm (fun j => sm (fun i => f i j) n) k
  | 0 => by
    have : ∀ k, sm (fun _ : Nat => (0 : Nat)) k = 0 := fun k => by
      induction k with
      | zero => rfl
      | succ k ih => exact ih
    exact (this k).symm
  | n + 1 => by
    show sm (fun i => sm (fun j => f i j) k) n + sm (fun j => f n j) k = sm (fun j => sm (fun i => f i j) n + f n j) k
    rw [sm_sw n, sm_a]
theorem sm_zz {f : Nat → Nat} {n : Nat} : ∀ k, (∀ j, n ≤ j → j < n + k → f j = 0) → sm f (n + k) = sm f n
  | 0, _ => rfl
  | k + 1, h => by
    show sm f (n + k) + f (n + k) = sm f n
    rw [sm_zz k fun j a b => h j a (by omega), h (n + k) (by omega) (by omega)]
    rfl
section WYQ
variable {m inp : Nat} {W : WB} {u : Nat → Bool}
theorem eg_sm : ∀ n, egC W u n = sm (fun i => if u i = true then W.2.1 i else 0) n + 4 * sm (fun i => if u i = true then abW W u i else 0) n
  | 0 => rfl
  | n + 1 => by
    have ih := eg_sm n
    show (if u n = true then egC W u n + (W.2.1 n + 4 * abW W u n) else egC W u n) = (sm (fun i => if u i = true then W.2.1 i else 0) n + (if u n = true then W.2.1 n else 0)) + 4 * (sm (fun i => if u i = true then abW W u i else 0) n + (if u n = true then abW W u n else 0))
    by_cases h : u n = true
    · rw [if_pos h, if_pos h, if_pos h, ih]
      omega
    · rw [if_neg h, if_neg h, if_neg h, ih]
      omega
/-- a TURNED EDGE upwards between two that are 1 -/
def qW (W : WB) (u : Nat → Bool) (i j : Nat) : Nat := if W.2.2 i j = 2 ∧ u i = true ∧ u j = true ∧ i < j then 1 else 0
theorem ab_q (i : Nat) : (if u i = true then abW W u i else 0) = sm (fun j => qW W u i j) 64 := by
  by_cases h : u i = true
  · rw [if_pos h]
    refine sm_e 64 fun j _ => ?_
    unfold qW
    by_cases c : W.2.2 i j = 2 ∧ u i = true ∧ u j = true ∧ i < j
    · rw [if_pos c, if_pos]
      rw [decide_eq_true c.1, c.2.2.1, decide_eq_true c.2.2.2]
      rfl
    · rw [if_neg c, if_neg]
      intro z
      rw [Bool.and_eq_true, Bool.and_eq_true] at z
      exact c ⟨of_decide_eq_true z.1.1, h, z.1.2, of_decide_eq_true z.2⟩
  · rw [if_neg h]
    have : ∀ k, sm (fun j => qW W u i j) k = 0 := fun k => by
      induction k with
      | zero => rfl
      | succ k ih =>
        show sm (fun j => qW W u i j) k + qW W u i k = 0
        rw [ih, Nat.zero_add]
        show (if W.2.2 i k = 2 ∧ u i = true ∧ u k = true ∧ i < k then 1 else 0) = 0
        exact if_neg fun z => h z.2.1
    exact (this 64).symm
theorem prJ_sm {i : Nat} : ∀ j, prJ W u i j = sm (fun j => if W.2.2 i j = 2 ∧ u i = true ∧ u j = true then 4 else 0) j
  | 0 => rfl
  | j + 1 => by
    show prJ W u i j + _ = _
    rw [prJ_sm j]
    rfl
theorem prI_sm : ∀ n, prI W u n = sm (fun i => if W.1 i = true then prJ W u i i else 0) n
  | 0 => rfl
  | n + 1 => by
    show prI W u n + _ = _
    rw [prI_sm n]
    rfl
/-- those below, by columns -/
theorem col_q (g : gdW m inp W) {j : Nat} (hj : j < 60) : 4 * sm (fun i => qW W u i j) 60 = if W.1 j = true then prJ W u j j else 0 := by
  have e1 : sm (fun i => qW W u i j) 60 = sm (fun i => qW W u i j) j := by
    obtain ⟨k, hk⟩ : ∃ k, 60 = j + k := ⟨60 - j, by omega⟩
    rw [hk]
    refine sm_zz k fun i hi _ => if_neg fun z => ?_
    have := z.2.2.2
    omega
  rw [e1, ← sm_k, prJ_sm]
  by_cases t : W.1 j = true
  · rw [if_pos t]
    refine sm_e j fun i hi => ?_
    unfold qW
    rw [g.2.2.2.2.2.2.1 j i]
    by_cases c : W.2.2 i j = 2 ∧ u j = true ∧ u i = true
    · rw [if_pos c, if_pos ⟨c.1, c.2.2, c.2.1, hi⟩]
    · rw [if_neg c, if_neg fun z => c ⟨z.1, z.2.2.1, z.2.1⟩]
  · rw [if_neg t]
    have : ∀ k, sm (fun i => 4 * qW W u i j) k = 0 := fun k => by
      induction k with
      | zero => rfl
      | succ k ih =>
        show sm (fun i => 4 * qW W u i j) k + 4 * qW W u k j = 0
        rw [ih, show qW W u k j = 0 from if_neg fun z => t (g.2.2.2.2.2.2.2.2.2.1 k j (by omega)).2]
    exact this j
theorem q_64 (g : gdW m inp W) {j : Nat} (hj : 60 ≤ j) : ∀ n, sm (fun i => qW W u i j) n = 0
  | 0 => rfl
  | n + 1 => by
    show sm (fun i => qW W u i j) n + qW W u n j = 0
    rw [q_64 g hj n, Nat.zero_add]
    show (if W.2.2 n j = 2 ∧ u n = true ∧ u j = true ∧ n < j then 1 else 0) = 0
    refine if_neg fun z => ?_
    have := g.1
    have := g.2.2.2.2.1 j (g.2.2.2.2.2.2.2.2.2.1 n j (by omega)).2
    omega
/-- both count the TURNED EDGES alike -/
theorem prs (g : gdW m inp W) (hu : ∀ i, u i = true → W.1 i = true) : 4 * sm (fun i => if u i = true then abW W u i else 0) m = prI W u 60 := by
  have m60 := g.1
  have e0 : sm (fun i => if u i = true then abW W u i else 0) 60 = sm (fun i => if u i = true then abW W u i else 0) m := by
    obtain ⟨k, hk⟩ : ∃ k, 60 = m + k := ⟨60 - m, by omega⟩
    rw [hk]
    refine sm_zz k fun i hi _ => if_neg fun z => ?_
    have := g.2.2.2.2.1 i (hu i z)
    omega
  rw [← e0, sm_e 60 (fun i _ => ab_q (W := W) (u := u) i), sm_sw, ← sm_k, prI_sm]
  have e1 : sm (fun j => 4 * sm (fun i => qW W u i j) 60) 64 = sm (fun j => 4 * sm (fun i => qW W u i j) 60) 60 := by
    rw [show (64 : Nat) = 60 + 4 from rfl]
    exact sm_zz 4 fun j hj _ => by rw [q_64 g hj]
  rw [e1]
  exact sm_e 60 fun j hj => col_q g hj
/-- the phases of the inner ones alone: INPUTS and OUTPUTS have none -/
theorem phs (g : gdW m inp W) (ho : oD inp W) (hu : ∀ i, u i = true → W.1 i = true) : sm (fun i => if u i = true then W.2.1 i else 0) m = sm (fun i => if 2 * inp ≤ i ∧ W.1 i = true ∧ u i = true then W.2.1 i else 0) 60 := by
  have m60 := g.1
  have e0 : sm (fun i => if u i = true then W.2.1 i else 0) 60 = sm (fun i => if u i = true then W.2.1 i else 0) m := by
    obtain ⟨k, hk⟩ : ∃ k, 60 = m + k := ⟨60 - m, by omega⟩
    rw [hk]
    refine sm_zz k fun i hi _ => if_neg fun z => ?_
    have := g.2.2.2.2.1 i (hu i z)
    omega
  rw [← e0]
  refine sm_e 60 fun i _ => ?_
  by_cases h : u i = true
  · rw [if_pos h]
    by_cases h2 : 2 * inp ≤ i
    · rw [if_pos ⟨h2, hu i h, h⟩]
    · rw [if_neg fun z => h2 z.1]
      exact (ho i (by omega)).1
  · rw [if_neg h, if_neg fun z => h z.2.2]
/-- the list of the inner ones, so far -/
def inL (inp : Nat) (W : WB) (κ : Nat → Nat) (n i : Nat) : Prop := (∀ t, t < n → W.1 (κ t) = true ∧ 2 * inp ≤ κ t ∧ κ t < i) ∧ (∀ s t, s < t → t < n → κ s < κ t) ∧ (∀ x, 2 * inp ≤ x → x < i → W.1 x = true → ∃ t, t < n ∧ κ t = x) ∧ ∀ u, egI W u κ n = sm (fun x => if 2 * inp ≤ x ∧ W.1 x = true ∧ u x = true then W.2.1 x else 0) i
theorem egI_c {κ κ' : Nat → Nat} : ∀ n, (∀ t, t < n → κ t = κ' t) → egI W u κ n = egI W u κ' n
  | 0, _ => rfl
  | n + 1, h => by
    show egI W u κ n + b1 (u (κ n)) * W.2.1 (κ n) = egI W u κ' n + b1 (u (κ' n)) * W.2.1 (κ' n)
    rw [egI_c n fun t ht => h t (by omega), h n (by omega)]
theorem inL_0 {κ : Nat → Nat} : inL inp W κ 0 (2 * inp) := by
  refine ⟨fun t ht => absurd ht (Nat.not_lt_zero _), fun s t _ ht => absurd ht (Nat.not_lt_zero _), fun x h1 h2 => by omega, fun u => ?_⟩
  have : ∀ k, k ≤ 2 * inp → sm (fun x => if 2 * inp ≤ x ∧ W.1 x = true ∧ u x = true then W.2.1 x else 0) k = 0 := fun k => by
    induction k with
    | zero => exact fun _ => rfl
    | succ k ih =>
      intro hk
      show sm _ k + (if 2 * inp ≤ k ∧ W.1 k = true ∧ u k = true then W.2.1 k else 0) = 0
      rw [ih (by omega), if_neg (by omega)]
  exact (this _ (Nat.le_refl _)).symm
theorem inL_n {κ : Nat → Nat} {n i : Nat} (h : inL inp W κ n i) (ht : ¬ W.1 i = true) : inL inp W κ n (i + 1) := by
  obtain ⟨h1, h2, h3, h4⟩ := h
  refine ⟨fun t hn => ⟨(h1 t hn).1, (h1 t hn).2.1, by have := (h1 t hn).2.2; omega⟩, h2, fun x a1 a2 a3 => ?_, fun u => ?_⟩
  · by_cases e : x = i
    · rw [e] at a3
      exact absurd a3 ht
    · exact h3 x a1 (by omega) a3
  · rw [h4 u]
    show _ = sm _ i + (if 2 * inp ≤ i ∧ W.1 i = true ∧ u i = true then W.2.1 i else 0)
    rw [if_neg fun z => ht z.2.1]
    rfl
theorem inL_s {κ : Nat → Nat} {n i : Nat} (h : inL inp W κ n i) (hi : 2 * inp ≤ i) (ht : W.1 i = true) : inL inp W (fun t => if t = n then i else κ t) (n + 1) (i + 1) := by
  obtain ⟨h1, h2, h3, h4⟩ := h
  refine ⟨fun t hn => ?_, fun s t hst hn => ?_, fun x a1 a2 a3 => ?_, fun u => ?_⟩
  · show W.1 (if t = n then i else κ t) = true ∧ 2 * inp ≤ (if t = n then i else κ t) ∧ (if t = n then i else κ t) < i + 1
    by_cases e : t = n
    · rw [if_pos e]
      exact ⟨ht, hi, by omega⟩
    · rw [if_neg e]
      have := h1 t (by omega)
      exact ⟨this.1, this.2.1, by omega⟩
  · show (if s = n then i else κ s) < if t = n then i else κ t
    rw [if_neg (by omega)]
    by_cases e : t = n
    · rw [if_pos e]
      exact (h1 s (by omega)).2.2
    · rw [if_neg e]
      exact h2 s t hst (by omega)
  · by_cases e : x = i
    · exact ⟨n, by omega, by dsimp only; rw [if_pos rfl, e]⟩
    · obtain ⟨t, t1, t2⟩ := h3 x a1 (by omega) a3
      exact ⟨t, by omega, by dsimp only; rw [if_neg (by omega)]; exact t2⟩
  · show egI W u (fun t => if t = n then i else κ t) n + b1 (u (if n = n then i else κ n)) * W.2.1 (if n = n then i else κ n) = sm _ i + (if 2 * inp ≤ i ∧ W.1 i = true ∧ u i = true then W.2.1 i else 0)
    rw [if_pos rfl, egI_c (κ' := κ) n (fun t htn => if_neg (by omega)), h4 u]
    cases hu : u i with
    | true =>
      rw [if_pos ⟨hi, ht, rfl⟩]
      show _ + 1 * W.2.1 i = _
      rw [Nat.one_mul]
    | false =>
      rw [if_neg fun z => absurd z.2.2 (by decide)]
      show _ + 0 * W.2.1 i = _
      rw [Nat.zero_mul]
/-- both count the same eighths -/
theorem eg_eq {κ : Nat → Nat} {n : Nat} (g : gdW m inp W) (ho : oD inp W) (hu : ∀ i, u i = true → W.1 i = true) (hκ : inL inp W κ n 60) : egC W u m = egI W u κ n + prI W u 60 := by
  rw [eg_sm, phs g ho hu, prs g hu, hκ.2.2.2 u]
end WYQ
