/-! THE ENGINE, its data: cells by address, locals by place. Nothing here speaks of one class: it stands for every class and law. -/
/-- the cells that are known, by address; how many there are -/
abbrev xm_H : Type := (Nat → Option va_E) × Nat
abbrev xm_L : Type := List (Option Value)
/-- an instruction: itself, two numbers (a place, a target, a class, a field, a method ..), an int, a long, the arms of a switch -/
abbrev xm_I : Type := Instr × Nat × Nat × Int32 × Int64 × List (Int32 × Nat)
/-- where a method stands: pc, locals, stack, cells, room left (cells, slots) -/
abbrev xm_X : Type := Nat → xm_L → List Value → xm_H → Nat → Nat → Prop
/-- what a method's end must be: a value or none, or the class that was thrown; the cells -/
abbrev xm_Q : Type := Option Value ⊕ String → xm_H → Prop
/-- what is known of a callee: its number, arguments, cells, its room, its end -/
abbrev xm_S : Type := Nat → List Value → xm_H → Nat → Nat → xm_Q → Prop
def xm_up (h : xm_H) (a : Nat) (e : va_E) : xm_H := (fun q => if q = a then some e else h.1 q, h.2)
def xm_nw (h : xm_H) (e : va_E) : xm_H := (fun q => if q = h.2 then some e else h.1 q, h.2 + 1)
/-- the heap H holds the cells h, and what was there at the law's start (H0) is as it was -/
def xm_rep (D : va_G) (cl : List vw_C) (H0 : Heap) (h : xm_H) (H : Heap) : Prop := H.size = h.2 ∧ (∀ (a : Nat) (e : va_E), h.1 a = some e → va_at D cl (a, e) H) ∧ H0.size ≤ H.size ∧ ∀ q : Nat, q < H0.size → H[q]? = H0[q]?
theorem xm_rep_up {D : va_G} {cl : List vw_C} {h : xm_H} {H0 H H1 : Heap} {a : Nat} {e : va_E} (hr : xm_rep D cl H0 h H) (ha : H0.size ≤ a) (he : va_at D cl (a, e) H1) (z : H1.size = H.size) (oq : ∀ q : Nat, q ≠ a → H1[q]? = H[q]?) : xm_rep D cl H0 (xm_up h a e) H1 := by
  refine ⟨z.trans hr.1, fun b e' hb => ?_, by rw [z]; exact hr.2.2.1, fun q hq => (oq q (by omega)).trans (hr.2.2.2 q hq)⟩
  simp only [xm_up] at hb
  by_cases hq : b = a
  · subst hq
    rw [if_pos rfl] at hb
    cases hb
    exact he
  · rw [if_neg hq] at hb
    exact (hr.2.1 b e' hb).kept (oq b hq)
theorem xm_rep_nw {D : va_G} {cl : List vw_C} {h : xm_H} {H0 H H1 : Heap} {e : va_E} (hr : xm_rep D cl H0 h H) (he : va_at D cl (h.2, e) H1) (z : H1.size = H.size + 1) (oq : ∀ q : Nat, q < H.size → H1[q]? = H[q]?) : xm_rep D cl H0 (xm_nw h e) H1 := by
  refine ⟨by rw [z, hr.1]; rfl, fun b e' hb => ?_, Nat.le_trans hr.2.2.1 (by omega), fun q hq => (oq q (Nat.lt_of_lt_of_le hq hr.2.2.1)).trans (hr.2.2.2 q hq)⟩
  simp only [xm_nw] at hb
  by_cases hq : b = h.2
  · subst hq
    rw [if_pos rfl] at hb
    cases hb
    exact he
  · rw [if_neg hq] at hb
    exact (hr.2.1 b e' hb).kept (oq b (hr.2.1 b e' hb).lt)
/-- locals: what is told of them holds -/
def xm_lo (ls : Array Slot) (nL : Nat) (L : xm_L) : Prop := L.length = nL ∧ ls.size = nL ∧ lv_wf ls ∧ ∀ (i : Nat) (v : Value), L[i]? = some (some v) → ls[i]? = some (.val v)
def xm_lv : Nat → xm_L → List (Nat × Value)
  | _, [] => []
  | i, none :: L => xm_lv (i + 1) L
  | i, some v :: L => (i, v) :: xm_lv (i + 1) L
theorem xm_lv_mem : ∀ (L : xm_L) (i j : Nat) (v : Value), (j, v) ∈ xm_lv i L ↔ i ≤ j ∧ L[j - i]? = some (some v)
  | [], i, j, v => by simp [xm_lv]
  | none :: L, i, j, v => by
    simp only [xm_lv]
    rw [xm_lv_mem L (i + 1) j v]
    by_cases hij : i = j
    · subst hij
      simp; omega
    · by_cases hlt : i < j
      · have e1 : j - i = (j - (i + 1)) + 1 := by omega
        rw [e1, List.getElem?_cons_succ]
        constructor
        · intro q; exact ⟨by omega, q.2⟩
        · intro q; exact ⟨by omega, q.2⟩
      · constructor
        · intro q; omega
        · intro q; omega
  | some w :: L, i, j, v => by
    simp only [xm_lv, List.mem_cons]
    rw [xm_lv_mem L (i + 1) j v]
    by_cases hij : i = j
    · subst hij
      simp only [Nat.sub_self, List.getElem?_cons_zero, Option.some.injEq, Prod.mk.injEq, true_and, Nat.le_refl]
      constructor
      · rintro (q | q)
        · exact q.symm
        · omega
      · intro q; exact Or.inl q.symm
    · by_cases hlt : i < j
      · have e1 : j - i = (j - (i + 1)) + 1 := by omega
        rw [e1, List.getElem?_cons_succ]
        constructor
        · rintro (q | q)
          · exact absurd (Prod.mk.inj q).1.symm hij
          · exact ⟨by omega, q.2⟩
        · intro q; exact Or.inr ⟨by omega, q.2⟩
      · constructor
        · rintro (q | q)
          · exact absurd (Prod.mk.inj q).1.symm hij
          · omega
        · intro q; omega
theorem xm_lo_has {ls : Array Slot} {nL : Nat} {L : xm_L} (h : xm_lo ls nL L) : lv_has ls nL (xm_lv 0 L) := by
  refine ⟨h.2.1, h.2.2.1, fun q hq => ?_⟩
  obtain ⟨j, v⟩ := q
  have := (xm_lv_mem L 0 j v).mp hq
  exact h.2.2.2 j v this.2
/-- a value of two words that stands just ahead of place i goes -/
def xm_clr (L : xm_L) (i : Nat) : xm_L := match i with
  | 0 => L
  | j + 1 => match L.getD j none with
    | some (.long _) => L.set j none
    | some (.double _) => L.set j none
    | _ => L
def xm_s1 (L : xm_L) (i : Nat) (v : Value) : xm_L := (xm_clr L i).set i (some v)
def xm_s2 (L : xm_L) (i : Nat) (v : Value) : xm_L := ((xm_clr L i).set (i + 1) none).set i (some v)
theorem xm_clr_len (L : xm_L) (i : Nat) : (xm_clr L i).length = L.length := by
  cases i with
  | zero => rfl
  | succ j =>
    simp only [xm_clr]
    split <;> simp
theorem xm_clr_at (L : xm_L) (i j : Nat) (v : Value) (h : (xm_clr L i)[j]? = some (some v)) : L[j]? = some (some v) ∧ ¬ (j + 1 = i ∧ v.category = 2) := by
  cases i with
  | zero => exact ⟨h, fun q => by omega⟩
  | succ k =>
    simp only [xm_clr] at h
    split at h
    · by_cases hk : k = j
      · subst hk
        by_cases hl : k < L.length
        · rw [List.getElem?_set_self hl] at h; cases h
        · rw [List.getElem?_eq_none (by simp; omega)] at h; cases h
      · rw [List.getElem?_set_ne hk] at h
        exact ⟨h, fun q => by omega⟩
    · by_cases hk : k = j
      · subst hk
        by_cases hl : k < L.length
        · rw [List.getElem?_set_self hl] at h; cases h
        · rw [List.getElem?_eq_none (by simp; omega)] at h; cases h
      · rw [List.getElem?_set_ne hk] at h
        exact ⟨h, fun q => by omega⟩
    · rename_i h1 h2
      refine ⟨h, fun q => ?_⟩
      obtain ⟨q1, q2⟩ := q
      have hk : j = k := by omega
      subst hk
      have hg : L.getD j none = some v := by simp [List.getD, h]
      cases v with
      | long w => exact h1 w hg
      | double w => exact h2 w hg
      | _ => simp [Value.category] at q2
theorem xm_lo_s1 {ls : Array Slot} {nL i : Nat} {L : xm_L} {v : Value} (hl : L.length = nL) (h : lv_has ls nL ((i, v) :: (xm_lv 0 L).filter (fun q => !(q.1 == i) && !(q.1 + 1 == i && q.2.category == 2)))) : xm_lo ls nL (xm_s1 L i v) := by
  refine ⟨by simp [xm_s1, xm_clr_len, hl], h.1, h.2.1, fun j w hj => ?_⟩
  by_cases hij : i = j
  · subst hij
    by_cases hlt : i < (xm_clr L i).length
    · rw [xm_s1, List.getElem?_set_self hlt] at hj
      cases hj
      exact h.2.2 (i, v) List.mem_cons_self
    · rw [xm_s1, List.getElem?_eq_none (by simp; omega)] at hj; cases hj
  · rw [xm_s1, List.getElem?_set_ne hij] at hj
    obtain ⟨h1, h2⟩ := xm_clr_at L i j w hj
    refine h.2.2 (j, w) (List.mem_cons_of_mem _ (List.mem_filter.mpr ⟨(xm_lv_mem L 0 j w).mpr ⟨Nat.zero_le j, h1⟩, ?_⟩))
    have hne : (j == i) = false := by simp; omega
    by_cases hji : j + 1 = i
    · have hc : ¬ w.category = 2 := fun q => h2 ⟨hji, q⟩
      simp [hne, hc]
    · simp [hne, hji]
theorem xm_lo_s2 {ls : Array Slot} {nL i : Nat} {L : xm_L} {v : Value} (hl : L.length = nL) (h : lv_has ls nL ((i, v) :: (xm_lv 0 L).filter (fun q => !(q.1 == i) && (!(q.1 == i + 1) && !(q.1 + 1 == i && q.2.category == 2))))) : xm_lo ls nL (xm_s2 L i v) := by
  refine ⟨by simp [xm_s2, xm_clr_len, hl], h.1, h.2.1, fun j w hj => ?_⟩
  by_cases hij : i = j
  · subst hij
    by_cases hlt : i < ((xm_clr L i).set (i + 1) none).length
    · rw [xm_s2, List.getElem?_set_self hlt] at hj
      cases hj
      exact h.2.2 (i, v) List.mem_cons_self
    · rw [xm_s2, List.getElem?_eq_none (by simp at hlt ⊢; omega)] at hj; cases hj
  · rw [xm_s2, List.getElem?_set_ne hij] at hj
    by_cases hi1 : i + 1 = j
    · subst hi1
      by_cases hlt : i + 1 < (xm_clr L i).length
      · rw [List.getElem?_set_self hlt] at hj; cases hj
      · rw [List.getElem?_eq_none (by simp; omega)] at hj; cases hj
    · rw [List.getElem?_set_ne hi1] at hj
      obtain ⟨h1, h2⟩ := xm_clr_at L i j w hj
      refine h.2.2 (j, w) (List.mem_cons_of_mem _ (List.mem_filter.mpr ⟨(xm_lv_mem L 0 j w).mpr ⟨Nat.zero_le j, h1⟩, ?_⟩))
      have hne : (j == i) = false := by simp; omega
      have hne1 : (j == i + 1) = false := by simp; omega
      by_cases hji : j + 1 = i
      · have hc : ¬ w.category = 2 := fun q => h2 ⟨hji, q⟩
        simp [hne, hne1, hc]
      · simp [hne, hne1, hji]
