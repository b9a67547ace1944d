/-! ROUTE: least words over letters that may be, to one of many ends -/
section RTA
variable {K : Type} (st : Nat → K → K) (V : Nat → Prop) (G : K → Prop)
def alV (w : List Nat) : Prop := ∀ g ∈ w, V g
/-- how far from an end -/
def dlV (k : K) (d : Nat) : Prop := (∃ w, alV V w ∧ w.length = d ∧ G (awS st w k)) ∧ ∀ w, alV V w → G (awS st w k) → d ≤ w.length
/-- the first step that comes nearer, again and again -/
def grV : K → Nat → List Nat → Prop
  | _, d, [] => d = 0
  | k, d, g :: w => V g ∧ 0 < d ∧ dlV st V G (st g k) (d - 1) ∧ (∀ h, h < g → V h → ¬ dlV st V G (st h k) (d - 1)) ∧ grV (st g k) (d - 1) w
variable {st V G}
theorem alV_c {g : Nat} {w : List Nat} (h : V g) (hw : alV V w) : alV V (g :: w) := fun x hx => by
  rcases List.mem_cons.mp hx with z | z
  · rw [z]
    exact h
  · exact hw x z
theorem alV_a {u w : List Nat} (h : alV V u) (hw : alV V w) : alV V (u ++ w) := fun x hx => (List.mem_append.mp hx).elim (h x) (hw x)
theorem alV_0 : alV V [] := fun g hg => absurd hg List.not_mem_nil
theorem gv_val : ∀ (w : List Nat) (k : K) (d : Nat), dlV st V G k d → grV st V G k d w → G (awS st w k) ∧ alV V w ∧ w.length = d
  | [], k, d, hd, h => by
    have h : d = 0 := h
    subst h
    obtain ⟨⟨w, _, w2, w3⟩, _⟩ := hd
    have : w = [] := List.length_eq_zero_iff.mp w2
    rw [this] at w3
    exact ⟨w3, alV_0, rfl⟩
  | g :: w, k, d, hd, h => by
    obtain ⟨h1, h2, h3, _, h5⟩ := h
    obtain ⟨a, b, c⟩ := gv_val w (st g k) (d - 1) h3 h5
    refine ⟨a, alV_c h1 b, ?_⟩
    show w.length + 1 = d
    omega
theorem dlV_x {k : K} {d x : Nat} {v : List Nat} (hd : dlV st V G k d) (hl : v.length + 1 = d) (hx : V x) (hv : alV V v) (ev : G (awS st v (st x k))) : dlV st V G (st x k) (d - 1) := ⟨⟨v, hv, by omega, ev⟩, fun u hu eu => by
  have := hd.2 (x :: u) (alV_c hx hu) eu
  have e1 : (x :: u).length = u.length + 1 := rfl
  omega⟩
theorem gv_least : ∀ (w : List Nat) (k : K) (d : Nat), dlV st V G k d → grV st V G k d w → ∀ v, alV V v → G (awS st v k) → slx w v
  | [], _, _, _, _, v, _, _ => slx_0 v
  | g :: w, k, d, hd, h, v, hv, ev => by
    obtain ⟨h1, h2, h3, h4, h5⟩ := h
    have hl := (gv_val w (st g k) (d - 1) h3 h5).2.2
    have hm := hd.2 v hv ev
    by_cases hlt : d < v.length
    · exact Or.inl (Or.inl (by show w.length + 1 < v.length; omega))
    cases v with
    | nil => exact absurd hm (by show ¬ d ≤ 0; omega)
    | cons x v =>
      have hm' : v.length + 1 = d := by
        have e1 : (x :: v).length = v.length + 1 := rfl
        omega
      have x5 := hv x List.mem_cons_self
      have hv' : alV V v := fun y hy => hv y (List.mem_cons_of_mem _ hy)
      have hdx := dlV_x hd hm' x5 hv' ev
      by_cases hx : x = g
      · subst hx
        exact slx_c (gv_least w (st x k) (d - 1) h3 h5 v hv' ev)
      · have : g < x := by
          apply Classical.byContradiction
          intro z
          exact h4 x (by omega) x5 hdx
        exact Or.inl (Or.inr ⟨by show w.length + 1 = v.length + 1; omega, Or.inl this⟩)
/-- some word ends there: some distance -/
theorem dlV_e {k : K} {v : List Nat} (hv : alV V v) (h : G (awS st v k)) : ∃ d, d ≤ v.length ∧ dlV st V G k d := by
  have key : ∀ n, (∃ w, alV V w ∧ w.length = n ∧ G (awS st w k)) → ∃ d, d ≤ n ∧ dlV st V G k d := by
    intro n
    induction n using Nat.strongRecOn with
    | _ n ih =>
      intro hw
      by_cases c : ∃ m, m < n ∧ ∃ w, alV V w ∧ w.length = m ∧ G (awS st w k)
      · obtain ⟨m, hm, hw'⟩ := c
        obtain ⟨d, a, b⟩ := ih m hm hw'
        exact ⟨d, by omega, b⟩
      · exact ⟨n, Nat.le_refl _, hw, fun w w1 w2 => Classical.byContradiction fun q => c ⟨w.length, by omega, w, w1, rfl, w2⟩⟩
  exact key v.length ⟨v, hv, rfl, h⟩
theorem dlV_u {k : K} {a b : Nat} (h : dlV st V G k a) (g : dlV st V G k b) : a = b := by
  obtain ⟨⟨w, w1, w2, w3⟩, wm⟩ := h
  obtain ⟨⟨v, v1, v2, v3⟩, vm⟩ := g
  have := wm v v1 v3
  have := vm w w1 w3
  omega
theorem dlV_f {k : K} {a : Nat} (h : dlV st V G k (a + 1)) : ∃ i, V i ∧ dlV st V G (st i k) a := by
  have hh := h
  obtain ⟨⟨w, w1, w2, w3⟩, wm⟩ := h
  cases w with
  | nil => exact absurd w2 (by show ¬ 0 = a + 1; omega)
  | cons i w =>
    have hi := w1 i List.mem_cons_self
    exact ⟨i, hi, dlV_x hh w2 hi (fun x hx => w1 x (List.mem_cons_of_mem _ hx)) w3⟩
/-- a table of states found one from another, in the order of their words -/
def rbT (n : Nat) (T : Nat → K) (fr yb : Nat → Nat) (e : K) : Prop := 0 < n ∧ T 0 = e ∧ (∀ i, 0 < i → i < n → fr i < i ∧ V (yb i) ∧ T i = st (yb i) (T (fr i))) ∧ (∀ i j, 0 < i → i < j → j < n → fr i < fr j ∨ (fr i = fr j ∧ yb i < yb j))
variable {n : Nat} {T : Nat → K} {fr yb : Nat → Nat} {e : K}
theorem rb_f (h : rbT (st := st) (V := V) n T fr yb e) : ∀ i, 0 < i → i < n → fr i < i := fun i a b => (h.2.2.1 i a b).1
theorem rb_val (h : rbT (st := st) (V := V) n T fr yb e) : ∀ i, i < n → awS st (wdB fr yb i i) e = T i ∧ alV V (wdB fr yb i i) := by
  intro i
  induction i using Nat.strongRecOn with
  | _ i ih =>
    intro hi
    by_cases h0 : i = 0
    · subst h0
      exact ⟨h.2.1.symm, alV_0⟩
    · obtain ⟨a, b, c⟩ := h.2.2.1 i (by omega) hi
      obtain ⟨p, q⟩ := ih (fr i) a (by omega)
      rw [wd_s (rb_f h) (by omega) hi]
      refine ⟨?_, fun g hg => ?_⟩
      · rw [aw_a, p]
        exact c.symm
      · rcases List.mem_append.mp hg with z | z
        · exact q g z
        · rw [List.mem_singleton.mp z]
          exact b
theorem rb_ord (h : rbT (st := st) (V := V) n T fr yb e) : ∀ b, b < n → ∀ a, a < b → sls (wdB fr yb a a) (wdB fr yb b b) := by
  intro b
  induction b using Nat.strongRecOn with
  | _ b ih =>
    intro hb a ha
    have eb := wd_s (yb := yb) (rb_f h) (show 0 < b by omega) hb
    by_cases h0 : a = 0
    · subst h0
      rw [eb]
      exact sls_n (by rw [List.length_append]; exact Nat.succ_pos _)
    · rw [eb, wd_s (rb_f h) (show 0 < a by omega) (by omega)]
      rcases h.2.2.2 a b (by omega) ha hb with q | ⟨q, r⟩
      · have fb := rb_f h b (by omega) hb
        exact sls_a (ih (fr b) fb (by omega) (fr a) q) _ _
      · rw [q]
        exact sls_b _ r
theorem slx_x {u v : List Nat} {a b : Nat} (h : slx u v) (hab : a ≤ b) : slx (u ++ [a]) (v ++ [b]) := by
  rcases h with h | h
  · exact Or.inl (sls_a h _ _)
  · rw [h]
    by_cases c : a = b
    · rw [c]
      exact Or.inr rfl
    · exact Or.inl (sls_b _ (by omega))
theorem slx_tr {u v w : List Nat} (h : slx u v) (g : slx v w) : slx u w := by
  rcases h with h | h
  · exact Or.inl (sls_x h g)
  · rw [h]
    exact g
/-- where all ahead of H have been gone on from (R: at least as good): the words of the table are the least -/
theorem rb_least {R : K → K → Prop} {H : Nat} (h : rbT (st := st) (V := V) n T fr yb e) (hR : ∀ k k' g, V g → R k k' → R (st g k) (st g k')) (hRt : ∀ a b c, R a b → R b c → R a c) (hRr : ∀ a, R a a) (hH : H ≤ n) (hc : ∀ j g, j < H → V g → ∃ i, i < n ∧ R (T i) (st g (T j)) ∧ (0 < i → fr i < j ∨ (fr i = j ∧ yb i ≤ g))) : ∀ v : List Nat, alV V v → (∃ i, i < H ∧ R (T i) (awS st v e) ∧ slx (wdB fr yb i i) v) ∨ (H < n ∧ slx (wdB fr yb H H) v) := by
  have big : ∀ i v, i < n → R (T i) (awS st v e) → slx (wdB fr yb i i) v → (∃ i, i < H ∧ R (T i) (awS st v e) ∧ slx (wdB fr yb i i) v) ∨ (H < n ∧ slx (wdB fr yb H H) v) := by
    intro i v hi hr hs
    by_cases c : i < H
    · exact Or.inl ⟨i, c, hr, hs⟩
    · refine Or.inr ⟨by omega, ?_⟩
      by_cases c2 : i = H
      · rw [← c2]
        exact hs
      · exact slx_tr (Or.inl (rb_ord h i hi H (by omega))) hs
  have key : ∀ u : List Nat, alV V u.reverse → (∃ i, i < H ∧ R (T i) (awS st u.reverse e) ∧ slx (wdB fr yb i i) u.reverse) ∨ (H < n ∧ slx (wdB fr yb H H) u.reverse) := by
    intro u
    induction u with
    | nil =>
      intro _
      refine big 0 [] h.1 ?_ (Or.inr rfl)
      rw [h.2.1]
      exact hRr e
    | cons g u ih =>
      intro hl
      rw [List.reverse_cons] at hl ⊢
      have g5 := hl g (List.mem_append.mpr (Or.inr (List.mem_singleton.mpr rfl)))
      rcases ih (fun x hx => hl x (List.mem_append.mpr (Or.inl hx))) with ⟨j, hj, rj, lj⟩ | ⟨hn, lj⟩
      · obtain ⟨i, hi, ri, oi⟩ := hc j g hj g5
        refine big i _ hi (hRt _ _ _ ri ?_) ?_
        · rw [aw_a]
          exact hR _ _ g g5 rj
        · by_cases h0 : i = 0
          · subst h0
            exact slx_0 _
          · rw [wd_s (rb_f h) (by omega) hi]
            have fi := rb_f h i (by omega) hi
            rcases oi (by omega) with q | ⟨q, r⟩
            · exact Or.inl (sls_a (sls_x (rb_ord h j (by omega) (fr i) q) lj) _ _)
            · rw [q]
              exact slx_x lj r
      · refine Or.inr ⟨hn, slx_tr lj (Or.inl (Or.inl ?_))⟩
        rw [List.length_append]
        exact Nat.lt_succ_self _
  intro v hv
  have := key v.reverse
  rw [List.reverse_reverse] at this
  exact this hv
end RTA
