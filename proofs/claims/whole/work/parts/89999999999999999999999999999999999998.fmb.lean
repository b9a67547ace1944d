/-! FORM: the Cliffords; syllables -/
def kyL : List Nat := [17, 10, 19, 15, 26, 21, 57, 14, 25, 42, 23, 58, 49, 11, 30, 43, 61, 55, 51, 29, 46, 47, 62, 53]
def kyW : List (List Nat) := [[], [3], [4], [3, 4], [4, 3], [4, 4], [3, 4, 3], [3, 4, 4], [4, 3, 4], [4, 4, 3], [4, 4, 4], [3, 4, 3, 4], [3, 4, 4, 3], [3, 4, 4, 4], [4, 3, 4, 4], [4, 4, 3, 4], [3, 4, 3, 4, 4], [3, 4, 4, 3, 4], [4, 3, 4, 4, 3], [4, 3, 4, 4, 4], [4, 4, 3, 4, 4], [3, 4, 3, 4, 4, 3], [3, 4, 3, 4, 4, 4], [3, 4, 4, 3, 4, 4]]
def kyI : List Nat := [24, 24, 24, 24, 24, 24, 24, 24, 24, 24, 1, 13, 24, 24, 7, 3, 24, 0, 24, 2, 24, 5, 24, 10, 24, 8, 4, 24, 24, 19, 14, 24, 24, 24, 24, 24, 24, 24, 24, 24, 24, 24, 9, 15, 24, 24, 20, 21, 24, 12, 24, 18, 24, 23, 24, 17, 24, 6, 11, 24, 24, 16, 22, 24]
def kyP (i : Nat) : Nat × Nat := (kyL.getD i 0 % 8, kyL.getD i 0 / 8)
def kyN (k : Nat × Nat) : Nat := kyI.getD (k.1 + 8 * k.2) 24
def gdK (k : Nat × Nat) : Prop := ∃ i, i < 24 ∧ k = kyP i
def cw (k : Nat × Nat) : List Nat := kyW.getD (kyN k) []
def yI (a b : Nat) : Nat := (a ^^^ b) ^^^ ((1 + (a % 2 * (a / 2 % 2) + b % 2 * (b / 2 % 2) + 2 * ((a / 2 % 2) * (b % 2)) + 3 * (((a % 2 + b % 2) % 2) * ((a / 2 % 2 + b / 2 % 2) % 2)))) % 4 / 2 * 4)
def tI (g a : Nat) : Nat := if g = 3 then a / 2 % 2 + 2 * (a % 2) + 4 * ((a / 4 % 2 + a % 2 * (a / 2 % 2)) % 2) else if g = 4 then a % 2 + 2 * ((a / 2 % 2 + a % 2) % 2) + 4 * ((a / 4 % 2 + a % 2 * (a / 2 % 2)) % 2) else a % 2 + 2 * ((a / 2 % 2 + a % 2) % 2) + 4 * ((a / 4 % 2 + a % 2 * (1 - a / 2 % 2)) % 2)
def ahK (g : Nat) (k : Nat × Nat) : Nat × Nat := (tI g k.1, tI g k.2)
def tgK (g : Nat) (k : Nat × Nat) : Nat × Nat := if g = 0 then (k.1, k.2 ^^^ 4) else if g = 1 then (k.1 ^^^ 4, k.2 ^^^ 4) else if g = 2 then (k.1 ^^^ 4, k.2) else if g = 3 then (k.2, k.1) else if g = 4 then (yI k.1 k.2, k.2) else if g = 6 then (yI k.1 k.2 ^^^ 4, k.2) else k
def sK (k : Nat × Nat) : Nat := if k.2 % 4 = 2 then 0 else if k.2 % 4 = 1 then 1 else 2
def aK1 (k : Nat × Nat) : Nat × Nat := if sK k = 2 then ahK 6 k else k
def aK2 (k : Nat × Nat) : Nat × Nat := if sK k = 0 then aK1 k else ahK 3 (aK1 k)
def aK (k : Nat × Nat) : Nat × Nat := if (aK2 k).2 / 4 % 2 = 1 then ahK 6 (aK2 k) else aK2 k
def pK1 (t : Nat) (k : Nat × Nat) : Nat × Nat := if t = 0 then ahK 4 k else ahK 3 (ahK 4 k)
def pK (t : Nat) (k : Nat × Nat) : Nat × Nat := if t = 2 then ahK 4 (pK1 t k) else pK1 t k
def sy (s : Nat) : List Nat := if s = 0 then [5] else if s = 1 then [3, 5] else [4, 3, 5]
def syw : List Nat → List Nat
  | [] => []
  | s :: l => sy s ++ syw l
theorem syw_a : ∀ u v, syw (u ++ v) = syw u ++ syw v
  | [], _ => rfl
  | s :: u, v => by
    show sy s ++ syw (u ++ v) = sy s ++ syw u ++ syw v
    rw [syw_a u v, List.append_assoc]
theorem syw_1 (t : Nat) : syw [t] = sy t := List.append_nil _
def gKB (k : Nat × Nat) : Bool := decide (k.1 < 8) && decide (k.2 < 8) && decide (kyN k < 24)
theorem kyN_P : ∀ a, a < 8 → ∀ b, b < 8 → kyN (a, b) < 24 → kyP (kyN (a, b)) = (a, b) := by decide +kernel
theorem gK_B {k : Nat × Nat} (h : gKB k = true) : gdK k := by
  obtain ⟨h, h3⟩ := (Bool.and_eq_true _ _).mp h
  obtain ⟨h1, h2⟩ := (Bool.and_eq_true _ _).mp h
  obtain ⟨a, b⟩ := k
  exact ⟨_, of_decide_eq_true h3, (kyN_P a (of_decide_eq_true h1) b (of_decide_eq_true h2) (of_decide_eq_true h3)).symm⟩
def kgB (i g : Nat) : Bool := gKB (tgK g (kyP i)) && weqS (cw (kyP i) ++ [g]) (cw (tgK g (kyP i))) && (decide (g = 3) || decide ((tgK g (kyP i)).2 % 4 = (kyP i).2 % 4))
set_option maxRecDepth 100000 in
theorem ky_g : ((List.range 24).all fun i => [0, 1, 2, 3, 4, 6].all fun g => kgB i g) = true := by decide +kernel
def ktB (i : Nat) : Bool := gKB (aK (kyP i)) && weqS (cw (kyP i) ++ [5]) (sy (sK (kyP i)) ++ cw (aK (kyP i))) && decide ((aK (kyP i)).2 % 4 = 2)
set_option maxRecDepth 100000 in
theorem ky_t : ((List.range 24).all ktB) = true := by decide +kernel
def kpB (i t : Nat) : Bool := gKB (pK t (kyP i)) && weqS (sy t ++ ([5] ++ cw (kyP i))) (cw (pK t (kyP i))) && (decide (t ≠ 0) || decide ((kyP i).2 % 4 ≠ 2) || decide ((pK t (kyP i)).2 % 4 = 2))
set_option maxRecDepth 100000 in
theorem ky_p : ((List.range 24).all fun i => (List.range 3).all fun t => kpB i t) = true := by decide +kernel
set_option maxRecDepth 100000 in
theorem wq_7 : weqS [7] [5, 6] = true := by decide +kernel
theorem k_g {k : Nat × Nat} {g : Nat} (hk : gdK k) (hg : g = 0 ∨ g = 1 ∨ g = 2 ∨ g = 3 ∨ g = 4 ∨ g = 6) : gdK (tgK g k) ∧ weq (cw k ++ [g]) (cw (tgK g k)) ∧ (g = 3 ∨ (tgK g k).2 % 4 = k.2 % 4) := by
  obtain ⟨i, hi, rfl⟩ := hk
  have h := List.all_eq_true.mp (List.all_eq_true.mp ky_g i (List.mem_range.mpr hi)) g (by
    rcases hg with rfl | rfl | rfl | rfl | rfl | rfl <;> decide)
  obtain ⟨h, h3⟩ := (Bool.and_eq_true _ _).mp h
  obtain ⟨h1, h2⟩ := (Bool.and_eq_true _ _).mp h
  refine ⟨gK_B h1, weq_B h2, ?_⟩
  rcases Bool.or_eq_true_iff.mp h3 with z | z
  · exact Or.inl (of_decide_eq_true z)
  · exact Or.inr (of_decide_eq_true z)
theorem k_t {k : Nat × Nat} (hk : gdK k) : gdK (aK k) ∧ weq (cw k ++ [5]) (sy (sK k) ++ cw (aK k)) ∧ (aK k).2 % 4 = 2 := by
  obtain ⟨i, hi, rfl⟩ := hk
  have h := List.all_eq_true.mp ky_t i (List.mem_range.mpr hi)
  obtain ⟨h, h3⟩ := (Bool.and_eq_true _ _).mp h
  obtain ⟨h1, h2⟩ := (Bool.and_eq_true _ _).mp h
  exact ⟨gK_B h1, weq_B h2, of_decide_eq_true h3⟩
theorem k_p {k : Nat × Nat} {t : Nat} (hk : gdK k) (ht : t < 3) : gdK (pK t k) ∧ weq (sy t ++ ([5] ++ cw k)) (cw (pK t k)) ∧ (t = 0 → k.2 % 4 = 2 → (pK t k).2 % 4 = 2) := by
  obtain ⟨i, hi, rfl⟩ := hk
  have h := List.all_eq_true.mp (List.all_eq_true.mp ky_p i (List.mem_range.mpr hi)) t (List.mem_range.mpr ht)
  obtain ⟨h, h3⟩ := (Bool.and_eq_true _ _).mp h
  obtain ⟨h1, h2⟩ := (Bool.and_eq_true _ _).mp h
  refine ⟨gK_B h1, weq_B h2, fun t0 k2 => ?_⟩
  rcases Bool.or_eq_true_iff.mp h3 with z | z
  · rcases Bool.or_eq_true_iff.mp z with z | z
    · exact absurd t0 (of_decide_eq_true z)
    · exact absurd k2 (of_decide_eq_true z)
  · exact of_decide_eq_true z
/-- the last, and all but it -/
def ltS (l : List Nat) : Nat := l.getD (l.length - 1) 0
def dpS (l : List Nat) : List Nat := l.take (l.length - 1)
theorem ltS_a (l : List Nat) (t : Nat) : ltS (l ++ [t]) = t := by
  unfold ltS
  rw [List.length_append, show l.length + [t].length - 1 = l.length from rfl, List.getD_eq_getElem?_getD, List.getElem?_append_right (Nat.le_refl _), Nat.sub_self]
  rfl
theorem dpS_a (l : List Nat) (t : Nat) : dpS (l ++ [t]) = l := by
  unfold dpS
  rw [List.length_append, show l.length + [t].length - 1 = l.length from rfl, List.take_left]
theorem sn_x : ∀ ss : List Nat, ss ≠ [] → ∃ l t, ss = l ++ [t]
  | [], h => absurd rfl h
  | [a], _ => ⟨[], a, rfl⟩
  | a :: b :: l, _ => by
    obtain ⟨l', t, e⟩ := sn_x (b :: l) (fun z => by cases z)
    exact ⟨a :: l', t, by rw [e]; rfl⟩
/-- what the class does with one gate -/
def fmT (st : List Nat × (Nat × Nat)) : List Nat × (Nat × Nat) := if sK st.2 ≠ 0 ∨ st.1 = [] then (st.1 ++ [sK st.2], aK st.2) else (dpS st.1, pK (ltS st.1) (aK st.2))
def fmG (st : List Nat × (Nat × Nat)) (g : Nat) : List Nat × (Nat × Nat) := if g = 5 then fmT st else if g = 7 then ((fmT st).1, tgK 6 (fmT st).2) else (st.1, tgK g st.2)
def fmR : List Nat → List Nat × (Nat × Nat) → List Nat × (Nat × Nat)
  | [], st => st
  | g :: w, st => fmR w (fmG st g)
def nzc : List Nat → Nat
  | [] => 0
  | s :: l => (if s = 0 then 0 else 1) + nzc l
theorem nzc_a : ∀ u v, nzc (u ++ v) = nzc u + nzc v
  | [], v => (Nat.zero_add _).symm
  | s :: u, v => by
    show (if s = 0 then 0 else 1) + nzc (u ++ v) = (if s = 0 then 0 else 1) + nzc u + nzc v
    rw [nzc_a u v]
    omega
/-- a normal form's syllables -/
def nfS (l : List Nat) : Prop := ∀ j, j < l.length → l.getD j 0 < 3 ∧ (0 < j → l.getD j 0 ≠ 0)
theorem nfS_a {l : List Nat} {t : Nat} (h : nfS l) (ht : t < 3) (h0 : t ≠ 0 ∨ l = []) : nfS (l ++ [t]) := by
  intro j hj
  rw [List.length_append] at hj
  have hj : j < l.length + 1 := hj
  by_cases e : j < l.length
  · rw [List.getD_eq_getElem?_getD, List.getElem?_append_left e, ← List.getD_eq_getElem?_getD]
    exact h j e
  · have e : j = l.length := by omega
    subst e
    rw [List.getD_eq_getElem?_getD, List.getElem?_append_right (Nat.le_refl _), Nat.sub_self]
    refine ⟨ht, fun z => ?_⟩
    rcases h0 with q | q
    · exact q
    · rw [q] at z
      exact absurd z (by decide)
theorem nfS_p {l : List Nat} {t : Nat} (h : nfS (l ++ [t])) : nfS l ∧ t < 3 := by
  refine ⟨fun j hj => ?_, ?_⟩
  · have := h j (by rw [List.length_append]; exact Nat.lt_succ_of_lt hj)
    rw [List.getD_eq_getElem?_getD, List.getElem?_append_left hj, ← List.getD_eq_getElem?_getD] at this
    exact this
  · have := (h l.length (by rw [List.length_append]; exact Nat.lt_succ_self _)).1
    rw [List.getD_eq_getElem?_getD, List.getElem?_append_right (Nat.le_refl _), Nat.sub_self] at this
    exact this
theorem nzc_l : ∀ (l : List Nat), nfS l → l.length ≤ nzc l + 1 := by
  have key : ∀ l : List Nat, (∀ s ∈ l, s ≠ 0) → nzc l = l.length := by
    intro l
    induction l with
    | nil => exact fun _ => rfl
    | cons s l ih =>
      intro h
      show (if s = 0 then 0 else 1) + nzc l = l.length + 1
      rw [if_neg (h s List.mem_cons_self), ih (fun x hx => h x (List.mem_cons_of_mem _ hx))]
      omega
  intro l
  cases l with
  | nil => exact fun _ => Nat.zero_le _
  | cons s l =>
    intro h
    have := key l (fun x hx => by
      obtain ⟨j, hj, rfl⟩ := List.getElem_of_mem hx
      have := (h (j + 1) (Nat.succ_lt_succ hj)).2 (Nat.succ_pos _)
      rw [List.getD_eq_getElem?_getD, List.getElem?_cons_succ, List.getElem?_eq_getElem hj] at this
      exact this)
    show l.length + 1 ≤ (if s = 0 then 0 else 1) + nzc l + 1
    omega
def axN (k : Nat × Nat) : Nat := if k.2 % 4 = 2 then 0 else 1
/-- so far, the class is right -/
def fmI (u : List Nat) (st : List Nat × (Nat × Nat)) : Prop := weq u (syw st.1 ++ cw st.2) ∧ gdK st.2 ∧ nfS st.1 ∧ nzc st.1 + axN st.2 ≤ wk u
theorem sK_3 (k : Nat × Nat) : sK k < 3 := by
  unfold sK
  split
  · decide
  · split <;> decide
theorem fmI_T {u : List Nat} {st : List Nat × (Nat × Nat)} (h : fmI u st) : fmI (u ++ [5]) (fmT st) := by
  obtain ⟨h1, h2, h3, h4⟩ := h
  obtain ⟨t1, t2, t3⟩ := k_t h2
  have hw : weq (u ++ [5]) (syw st.1 ++ (sy (sK st.2) ++ cw (aK st.2))) := by
    have a := weq_e [5] h1
    rw [List.append_assoc] at a
    exact weq_t a (weq_l _ t2)
  have hk5 : wk (u ++ [5]) = wk u := by rw [wk_a]; rfl
  have ax0 : axN (aK st.2) = 0 := if_pos t3
  unfold fmT
  by_cases c : sK st.2 ≠ 0 ∨ st.1 = []
  · rw [if_pos c]
    refine ⟨?_, t1, nfS_a h3 (sK_3 _) c, ?_⟩
    · show weq _ (syw (st.1 ++ [sK st.2]) ++ cw (aK st.2))
      rw [syw_a, syw_1, List.append_assoc]
      exact hw
    · show nzc (st.1 ++ [sK st.2]) + axN (aK st.2) ≤ _
      rw [hk5, ax0, nzc_a]
      have : nzc [sK st.2] = axN st.2 := by
        show (if sK st.2 = 0 then 0 else 1) + 0 = _
        unfold sK axN
        by_cases q : st.2.2 % 4 = 2
        · rw [if_pos q, if_pos q]
          rfl
        · rw [if_neg q, if_neg q]
          by_cases q2 : st.2.2 % 4 = 1
          · rw [if_pos q2]
            rfl
          · rw [if_neg q2]
            rfl
      omega
  · rw [if_neg c]
    have s0 : sK st.2 = 0 := Classical.byContradiction fun z => c (Or.inl z)
    obtain ⟨l, t, e⟩ := sn_x st.1 (fun z => c (Or.inr z))
    rw [e] at h3 h4 hw
    rw [e, dpS_a, ltS_a]
    obtain ⟨n1, n2⟩ := nfS_p h3
    obtain ⟨p1, p2, p3⟩ := k_p t1 n2
    refine ⟨?_, p1, n1, ?_⟩
    · show weq _ (syw l ++ cw (pK t (aK st.2)))
      rw [s0, syw_a, syw_1, List.append_assoc] at hw
      exact weq_t hw (weq_l _ p2)
    · show nzc l + axN (pK t (aK st.2)) ≤ _
      rw [hk5]
      rw [nzc_a] at h4
      have a1 : axN (pK t (aK st.2)) ≤ 1 := by
        unfold axN
        split <;> omega
      by_cases t0 : t = 0
      · have : axN (pK t (aK st.2)) = 0 := if_pos (p3 t0 t3)
        omega
      · have : nzc [t] = 1 := by
          show (if t = 0 then 0 else 1) + 0 = 1
          rw [if_neg t0]
        omega
theorem fmI_g {u : List Nat} {st : List Nat × (Nat × Nat)} {g : Nat} (hg : g = 0 ∨ g = 1 ∨ g = 2 ∨ g = 3 ∨ g = 4 ∨ g = 6) (h : fmI u st) : fmI (u ++ [g]) (st.1, tgK g st.2) := by
  obtain ⟨h1, h2, h3, h4⟩ := h
  obtain ⟨t1, t2, t3⟩ := k_g h2 hg
  have a := weq_e [g] h1
  rw [List.append_assoc] at a
  refine ⟨weq_t a (weq_l _ t2), t1, h3, ?_⟩
  show nzc st.1 + axN (tgK g st.2) ≤ _
  rw [wk_a]
  have e : wk [g] = hk g := Nat.zero_add _
  rw [e]
  have a1 : axN (tgK g st.2) ≤ 1 := by
    unfold axN
    split <;> omega
  rcases t3 with z | z
  · subst z
    have : hk 3 = 1 := rfl
    omega
  · have : axN (tgK g st.2) = axN st.2 := by
      unfold axN
      rw [z]
    omega
theorem fmI_s {u : List Nat} {st : List Nat × (Nat × Nat)} {g : Nat} (hg : g < 8) (h : fmI u st) : fmI (u ++ [g]) (fmG st g) := by
  unfold fmG
  by_cases g5 : g = 5
  · rw [if_pos g5, g5]
    exact fmI_T h
  · rw [if_neg g5]
    by_cases g7 : g = 7
    · rw [if_pos g7, g7]
      have a := fmI_g (g := 6) (by omega) (fmI_T h)
      obtain ⟨a1, a2, a3, a4⟩ := a
      refine ⟨?_, a2, a3, ?_⟩
      · have b := weq_l u (weq_B wq_7)
        rw [show ([5, 6] : List Nat) = [5] ++ [6] from rfl, ← List.append_assoc] at b
        exact weq_t b a1
      · have e : wk (u ++ [7]) = wk (u ++ [5] ++ [6]) := by
          rw [wk_a, wk_a, wk_a]
          rfl
        rw [e]
        exact a4
    · rw [if_neg g7]
      exact fmI_g (by omega) h
theorem fmI_r : ∀ (w u : List Nat) (st : List Nat × (Nat × Nat)), (∀ g ∈ w, g < 8) → fmI u st → fmI (u ++ w) (fmR w st)
  | [], u, st, _, h => by
    rw [List.append_nil]
    exact h
  | g :: w, u, st, hw, h => by
    have := fmI_r w (u ++ [g]) (fmG st g) (fun x hx => hw x (List.mem_cons_of_mem _ hx)) (fmI_s (hw g List.mem_cons_self) h)
    rw [List.append_assoc] at this
    exact this
theorem fmI_0 : fmI [] ([], (1, 2)) := ⟨weq_r [], ⟨0, by decide, rfl⟩, fun j hj => absurd hj (Nat.not_lt_zero _), by decide⟩
theorem fmI_w {w : List Nat} (hw : ∀ g ∈ w, g < 8) : fmI w (fmR w ([], (1, 2))) := fmI_r w [] _ hw fmI_0
