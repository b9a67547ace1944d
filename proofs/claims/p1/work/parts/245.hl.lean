/-! heaps that are built up cell by cell from an address b on: what lies below is g -/
/-- reading, size, making, writing, and a prefix taken as what lies below -/
def xh_L (hl : (Nat → Option va_E) → Nat → List va_E → xm_H) : Prop :=
  (∀ g b cs k, (hl g b cs).1 (b + k) = cs[k]?) ∧ (∀ g b cs, (hl g b cs).2 = b + cs.length) ∧ (∀ g b cs e, xm_nw (hl g b cs) e = hl g b (cs ++ [e])) ∧ (∀ g b cs k e, k < cs.length → xm_up (hl g b cs) (b + k) e = hl g b (cs.set k e)) ∧
  ∀ g b cs ds, hl g b (cs ++ ds) = hl (hl g b cs).1 (b + cs.length) ds
def xh (g : Nat → Option va_E) (b : Nat) (cs : List va_E) : xm_H := (fun a => if a < b then g a else cs[a - b]?, b + cs.length)
theorem xh_at (g : Nat → Option va_E) (b : Nat) (cs : List va_E) (a : Nat) : (xh g b cs).1 a = if a < b then g a else cs[a - b]? := rfl
theorem xh_is : xh_L xh := by
  refine ⟨fun g b cs k => ?_, fun g b cs => rfl, fun g b cs e => ?_, fun g b cs k e hk => ?_, fun g b cs ds => ?_⟩
  · rw [xh_at, if_neg (by omega)]
    congr 1
    omega
  · refine Prod.ext (funext fun a => ?_) (by simp [xm_nw, xh]; omega)
    show (if a = b + cs.length then some e else (xh g b cs).1 a) = (xh g b (cs ++ [e])).1 a
    rw [xh_at, xh_at]
    by_cases h1 : a = b + cs.length
    · subst h1
      rw [if_pos rfl, if_neg (by omega)]
      simp
    · rw [if_neg h1]
      by_cases h2 : a < b
      · rw [if_pos h2, if_pos h2]
      · rw [if_neg h2, if_neg h2]
        by_cases h3 : a - b < cs.length
        · rw [List.getElem?_append_left h3]
        · rw [List.getElem?_eq_none (by omega), List.getElem?_eq_none (by simp; omega)]
  · refine Prod.ext (funext fun a => ?_) (by simp [xm_up, xh])
    show (if a = b + k then some e else (xh g b cs).1 a) = (xh g b (cs.set k e)).1 a
    rw [xh_at, xh_at]
    by_cases h1 : a = b + k
    · subst h1
      rw [if_pos rfl, if_neg (by omega), Nat.add_sub_cancel_left, List.getElem?_set_self hk]
    · rw [if_neg h1]
      by_cases h2 : a < b
      · rw [if_pos h2, if_pos h2]
      · rw [if_neg h2, if_neg h2, List.getElem?_set_ne (by omega)]
  · refine Prod.ext (funext fun a => ?_) (by simp [xh]; omega)
    show (xh g b (cs ++ ds)).1 a = (xh (xh g b cs).1 (b + cs.length) ds).1 a
    rw [xh_at, xh_at, xh_at]
    by_cases h2 : a < b
    · rw [if_pos h2, if_pos (by omega), if_pos h2]
    · rw [if_neg h2]
      by_cases h3 : a < b + cs.length
      · rw [if_pos h3, if_neg h2, List.getElem?_append_left (by omega)]
      · rw [if_neg h3, List.getElem?_append_right (by omega)]
        congr 1
        omega
/-- a call that returns nothing, with the cells h' -/
def xq0 (h : xm_H) : xm_Q := fun r h' => r = .inl none ∧ h' = h
/-- a call that returns v, with the cells h' -/
def xq1 (v : Value) (h : xm_H) : xm_Q := fun r h' => r = .inl (some v) ∧ h' = h
theorem xw0 {cs : xm_S} {x : Nat} {as r : List Value} {h h' : xm_H} {rc rs : Nat} {K : List Value → xm_H → Nat → Nat → Prop} {KX : String → xm_H → Nat → Nat → Prop} (mc ms : Nat) (hs : (r.map fun v => v.category).sum ≤ 8) (h1 : mc ≤ rc) (h2 : ms ≤ rs) (hc : cs x as h mc ms (xq0 h')) (k : K r h' (rc - mc) (rs - ms)) : xm_call cs x as r h rc rs K KX :=
  ⟨hs, mc, ms, xq0 h', h1, h2, hc, fun w h9 q => by
    obtain ⟨q1, q2⟩ := q
    cases q1
    subst q2
    exact k, fun E h9 q => by cases q.1⟩
theorem xw1 {cs : xm_S} {x : Nat} {as r : List Value} {h h' : xm_H} {rc rs : Nat} {K : List Value → xm_H → Nat → Nat → Prop} {KX : String → xm_H → Nat → Nat → Prop} {v : Value} (mc ms : Nat) (hs : (r.map fun v => v.category).sum ≤ 8) (h1 : mc ≤ rc) (h2 : ms ≤ rs) (hc : cs x as h mc ms (xq1 v h')) (k : K (v :: r) h' (rc - mc) (rs - ms)) : xm_call cs x as r h rc rs K KX :=
  ⟨hs, mc, ms, xq1 v h', h1, h2, hc, fun w h9 q => by
    obtain ⟨q1, q2⟩ := q
    cases q1
    subst q2
    exact k, fun E h9 q => by cases q.1⟩
theorem xw_O {h : xm_H} {ci a : Nat} {fs : List Value} (ha : h.1 a = some (.inr (ci, fs))) : xm_O h ci a (fun _ => True) := by
  unfold xm_O; rw [ha]; exact ⟨rfl, trivial⟩
theorem xh_td {hl : (Nat → Option va_E) → Nat → List va_E → xm_H} (H : xh_L hl) (n : Nat) {g : Nat → Option va_E} {b : Nat} {cs : List va_E} (hn : n ≤ cs.length) : hl g b cs = hl (hl g b (cs.take n)).1 (b + n) (cs.drop n) := by
  have h := H.2.2.2.2 g b (cs.take n) (cs.drop n)
  rw [List.take_append_drop, List.length_take, Nat.min_eq_left hn] at h
  exact h
theorem xh_bk {hl : (Nat → Option va_E) → Nat → List va_E → xm_H} (H : xh_L hl) (n : Nat) {g : Nat → Option va_E} {b : Nat} {cs ds : List va_E} (hn : n ≤ cs.length) : hl (hl g b (cs.take n)).1 (b + n) ds = hl g b (cs.take n ++ ds) := by
  have h := H.2.2.2.2 g b (cs.take n) ds
  rw [List.length_take, Nat.min_eq_left hn] at h
  exact h.symm
