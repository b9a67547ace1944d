/-! SHORTEST: words, the shortest first, then in the order of their letters -/
def lxS : List Nat → List Nat → Prop
  | a :: u, b :: v => a < b ∨ (a = b ∧ lxS u v)
  | _, _ => False
/-- comes ahead -/
def sls (u v : List Nat) : Prop := u.length < v.length ∨ (u.length = v.length ∧ lxS u v)
def slx (u v : List Nat) : Prop := sls u v ∨ u = v
theorem lxS_i : ∀ u : List Nat, ¬ lxS u u
  | [] => fun h => h
  | a :: u => fun h => h.elim (fun q => Nat.lt_irrefl _ q) (fun q => lxS_i u q.2)
theorem lxS_t : ∀ u v w : List Nat, lxS u v → lxS v w → lxS u w
  | [], _, _, h, _ => False.elim h
  | _ :: _, [], _, h, _ => False.elim h
  | _ :: _, _ :: _, [], _, g => False.elim g
  | a :: u, b :: v, c :: w, h, g => by
    rcases h with h | ⟨rfl, h⟩
    · rcases g with g | ⟨rfl, g⟩
      · exact Or.inl (Nat.lt_trans h g)
      · exact Or.inl h
    · rcases g with g | ⟨rfl, g⟩
      · exact Or.inl g
      · exact Or.inr ⟨rfl, lxS_t u v w h g⟩
theorem lxS_a : ∀ (u v : List Nat) (a b : Nat), u.length = v.length → lxS u v → lxS (u ++ [a]) (v ++ [b])
  | [], _, _, _, _, h => False.elim h
  | _ :: _, [], _, _, _, h => False.elim h
  | x :: u, y :: v, a, b, e, h => by
    rcases h with h | ⟨rfl, h⟩
    · exact Or.inl h
    · exact Or.inr ⟨rfl, lxS_a u v a b (Nat.succ.inj e) h⟩
theorem lxS_b : ∀ (u : List Nat) {a b : Nat}, a < b → lxS (u ++ [a]) (u ++ [b])
  | [], _, _, h => Or.inl h
  | _ :: u, _, _, h => Or.inr ⟨rfl, lxS_b u h⟩
theorem sls_i (u : List Nat) : ¬ sls u u := fun h => h.elim (fun q => Nat.lt_irrefl _ q) (fun q => lxS_i u q.2)
theorem sls_t {u v w : List Nat} (h : sls u v) (g : sls v w) : sls u w := by
  unfold sls at h g ⊢
  rcases h with h | ⟨e, h⟩
  · rcases g with g | ⟨e', _⟩
    · exact Or.inl (by omega)
    · exact Or.inl (by omega)
  · rcases g with g | ⟨e', g⟩
    · exact Or.inl (by omega)
    · exact Or.inr ⟨by omega, lxS_t u v w h g⟩
theorem sls_a {u v : List Nat} (h : sls u v) (a b : Nat) : sls (u ++ [a]) (v ++ [b]) := by
  unfold sls at h ⊢
  rw [List.length_append, List.length_append]
  rcases h with h | ⟨e, h⟩
  · exact Or.inl (by show u.length + 1 < v.length + 1; omega)
  · exact Or.inr ⟨by show u.length + 1 = v.length + 1; omega, lxS_a u v a b e h⟩
theorem sls_b (u : List Nat) {a b : Nat} (h : a < b) : sls (u ++ [a]) (u ++ [b]) := Or.inr ⟨by rw [List.length_append, List.length_append]; rfl, lxS_b u h⟩
theorem sls_n {v : List Nat} (h : 0 < v.length) : sls [] v := Or.inl h
theorem slx_u {u v : List Nat} (h : slx u v) (g : slx v u) : u = v := by
  rcases h with h | h
  · rcases g with g | g
    · exact absurd (sls_t h g) (sls_i u)
    · exact g.symm
  · exact h
theorem slx_s {u v w : List Nat} (h : slx u v) (g : sls v w) : sls u w := h.elim (fun q => sls_t q g) (fun q => by rw [q]; exact g)
theorem sls_x {u v w : List Nat} (h : sls u v) (g : slx v w) : sls u w := g.elim (fun q => sls_t h q) (fun q => by rw [← q]; exact h)
theorem slx_0 (v : List Nat) : slx [] v := by
  cases v with
  | nil => exact Or.inr rfl
  | cons a v => exact Or.inl (Or.inl (Nat.succ_pos _))
theorem slx_c {g : Nat} {u v : List Nat} (h : slx u v) : slx (g :: u) (g :: v) := by
  rcases h with (h | ⟨e, h⟩) | h
  · exact Or.inl (Or.inl (Nat.succ_lt_succ h))
  · exact Or.inl (Or.inr ⟨congrArg Nat.succ e, Or.inr ⟨rfl, h⟩⟩)
  · exact Or.inr (by rw [h])
section SHB
variable {K : Type} (st : Nat → K → K)
/-- what a word of steps makes of a key -/
def awS : List Nat → K → K
  | [], k => k
  | g :: w, k => awS w (st g k)
theorem aw_a : ∀ (u v : List Nat) (k : K), awS st (u ++ v) k = awS st v (awS st u k)
  | [], _, _ => rfl
  | g :: u, v, k => aw_a u v (st g k)
def al5 (w : List Nat) : Prop := ∀ g ∈ w, g < 5
/-- the word of a place in a table of what was found: by whence and which -/
def wdB (fr yb : Nat → Nat) : Nat → Nat → List Nat
  | 0, _ => []
  | m + 1, i => if i = 0 then [] else wdB fr yb m (fr i) ++ [yb i]
/-- a table of keys, found one from another -/
def bfT (n : Nat) (T : Nat → K) (fr yb : Nat → Nat) (e : K) : Prop := 0 < n ∧ T 0 = e ∧ (∀ i, 0 < i → i < n → fr i < i ∧ yb i < 5 ∧ T i = st (yb i) (T (fr i))) ∧ (∀ i j, i < n → j < n → T i = T j → i = j) ∧ (∀ i j, 0 < i → i < j → j < n → fr i < fr j ∨ (fr i = fr j ∧ yb i < yb j))
/-- it is whole -/
def bfC (n : Nat) (T : Nat → K) (fr yb : Nat → Nat) : Prop := ∀ j g, j < n → g < 5 → ∃ i, i < n ∧ T i = st g (T j) ∧ (0 < i → fr i < j ∨ (fr i = j ∧ yb i ≤ g))
variable {st} {n : Nat} {T : Nat → K} {fr yb : Nat → Nat} {e : K}
theorem wd_f (h : ∀ i, 0 < i → i < n → fr i < i) : ∀ (i m : Nat), i < n → i ≤ m → wdB fr yb m i = wdB fr yb i i := by
  intro i
  induction i using Nat.strongRecOn with
  | _ i ih =>
    intro m hi hm
    cases i with
    | zero =>
      cases m with
      | zero => rfl
      | succ m => exact if_pos rfl
    | succ i =>
      have hf := h (i + 1) (Nat.succ_pos _) hi
      cases m with
      | zero => omega
      | succ m =>
        show (if i + 1 = 0 then [] else wdB fr yb m (fr (i + 1)) ++ [yb (i + 1)]) = (if i + 1 = 0 then [] else wdB fr yb i (fr (i + 1)) ++ [yb (i + 1)])
        rw [if_neg (Nat.succ_ne_zero i), if_neg (Nat.succ_ne_zero i), ih (fr (i + 1)) hf m (by omega) (by omega), ih (fr (i + 1)) hf i (by omega) (by omega)]
theorem wd_s (h : ∀ i, 0 < i → i < n → fr i < i) {i : Nat} (h0 : 0 < i) (hi : i < n) : wdB fr yb i i = wdB fr yb (fr i) (fr i) ++ [yb i] := by
  have hf := h i h0 hi
  cases i with
  | zero => omega
  | succ i =>
    show (if i + 1 = 0 then [] else wdB fr yb i (fr (i + 1)) ++ [yb (i + 1)]) = _
    rw [if_neg (Nat.succ_ne_zero i), wd_f h (fr (i + 1)) i (by omega) (by omega)]
theorem bf_f (h : bfT st n T fr yb e) : ∀ i, 0 < i → i < n → fr i < i := fun i a b => (h.2.2.1 i a b).1
theorem bf_val (h : bfT st n T fr yb e) : ∀ i, i < n → awS st (wdB fr yb i i) e = T i ∧ al5 (wdB fr yb i i) := by
  intro i
  induction i using Nat.strongRecOn with
  | _ i ih =>
    intro hi
    by_cases h0 : i = 0
    · subst h0
      exact ⟨h.2.1.symm, fun g hg => absurd hg List.not_mem_nil⟩
    · obtain ⟨a, b, c⟩ := h.2.2.1 i (by omega) hi
      obtain ⟨p, q⟩ := ih (fr i) a (by omega)
      rw [wd_s (bf_f h) (by omega) hi]
      refine ⟨?_, fun g hg => ?_⟩
      · rw [aw_a, p]
        exact c.symm
      · rcases List.mem_append.mp hg with z | z
        · exact q g z
        · rw [List.mem_singleton.mp z]
          exact b
theorem bf_ord (h : bfT st n T fr yb e) : ∀ b, b < n → ∀ a, a < b → sls (wdB fr yb a a) (wdB fr yb b b) := by
  intro b
  induction b using Nat.strongRecOn with
  | _ b ih =>
    intro hb a ha
    have eb := wd_s (yb := yb) (bf_f h) (show 0 < b by omega) hb
    by_cases h0 : a = 0
    · subst h0
      rw [eb]
      exact sls_n (by rw [List.length_append]; exact Nat.succ_pos _)
    · rw [eb, wd_s (bf_f h) (show 0 < a by omega) (by omega)]
      rcases h.2.2.2.2 a b (by omega) ha hb with q | ⟨q, r⟩
      · have fb := bf_f h b (by omega) hb
        exact sls_a (ih (fr b) fb (by omega) (fr a) q) _ _
      · rw [q]
        exact sls_b _ r
/-- every word comes no earlier than that of its place -/
theorem bf_least (h : bfT st n T fr yb e) (c : bfC st n T fr yb) : ∀ v : List Nat, al5 v → ∃ i, i < n ∧ T i = awS st v e ∧ slx (wdB fr yb i i) v := by
  have key : ∀ u : List Nat, al5 u.reverse → ∃ i, i < n ∧ T i = awS st u.reverse e ∧ slx (wdB fr yb i i) u.reverse := by
    intro u
    induction u with
    | nil => intro _; exact ⟨0, h.1, h.2.1, Or.inr rfl⟩
    | cons g u ih =>
      intro hl
      rw [List.reverse_cons] at hl ⊢
      obtain ⟨j, hj, ej, lj⟩ := ih (fun x hx => hl x (List.mem_append.mpr (Or.inl hx)))
      have g5 := hl g (List.mem_append.mpr (Or.inr (List.mem_singleton.mpr rfl)))
      obtain ⟨i, hi, ei, oi⟩ := c j g hj g5
      refine ⟨i, hi, ?_, ?_⟩
      · rw [aw_a, ← ej]
        exact ei
      · by_cases h0 : i = 0
        · subst h0
          exact slx_0 _
        · rw [wd_s (bf_f h) (by omega) hi]
          have fi := bf_f h i (by omega) hi
          rcases oi (by omega) with q | ⟨q, r⟩
          · exact Or.inl (sls_a (sls_x (bf_ord h j hj (fr i) q) lj) _ _)
          · rw [q]
            rcases lj with z | z
            · exact Or.inl (sls_a z _ _)
            · rw [z]
              by_cases w : yb i = g
              · rw [w]
                exact Or.inr rfl
              · exact Or.inl (sls_b _ (by omega))
  intro v hv
  have := key v.reverse
  rw [List.reverse_reverse] at this
  exact this hv
/-- how far a key is from e -/
def dlS (st : Nat → K → K) (e k : K) (d : Nat) : Prop := (∃ w, al5 w ∧ w.length = d ∧ awS st w k = e) ∧ ∀ w, al5 w → awS st w k = e → d ≤ w.length
/-- the first step that comes nearer, again and again -/
def grW (st : Nat → K → K) (e : K) : K → Nat → List Nat → Prop
  | k, d, [] => d = 0 ∧ k = e
  | k, d, g :: w => g < 5 ∧ 0 < d ∧ dlS st e (st g k) (d - 1) ∧ (∀ h, h < g → ¬ dlS st e (st h k) (d - 1)) ∧ grW st e (st g k) (d - 1) w
theorem gr_val : ∀ (w : List Nat) (k : K) (d : Nat), grW st e k d w → awS st w k = e ∧ al5 w ∧ w.length = d
  | [], k, d, h => ⟨h.2, fun g hg => absurd hg List.not_mem_nil, h.1.symm⟩
  | g :: w, k, d, h => by
    obtain ⟨h1, h2, _, _, h5⟩ := h
    obtain ⟨a, b, c⟩ := gr_val w (st g k) (d - 1) h5
    refine ⟨a, fun x hx => ?_, ?_⟩
    · rcases List.mem_cons.mp hx with z | z
      · rw [z]
        exact h1
      · exact b x z
    · show w.length + 1 = d
      omega
theorem gr_least : ∀ (w : List Nat) (k : K) (d : Nat), dlS st e k d → grW st e k d w → ∀ v, al5 v → awS st v k = e → slx w v
  | [], _, _, _, _, v, _, _ => slx_0 v
  | g :: w, k, d, hd, h, v, hv, ev => by
    obtain ⟨h1, h2, h3, h4, h5⟩ := h
    have hl := (gr_val w (st g k) (d - 1) h5).2.2
    have hm := hd.2 v hv ev
    by_cases hlt : d < v.length
    · exact Or.inl (Or.inl (by show w.length + 1 < v.length; omega))
    cases v with
    | nil => exact absurd hm (by show ¬ d ≤ 0; omega)
    | cons x v =>
      have hm' : v.length + 1 = d := by
        have e1 : (x :: v).length = v.length + 1 := rfl
        omega
      have x5 := hv x List.mem_cons_self
      have hv' : al5 v := fun y hy => hv y (List.mem_cons_of_mem _ hy)
      have hdx : dlS st e (st x k) (d - 1) := ⟨⟨v, hv', by omega, ev⟩, fun u hu eu => by
        have := hd.2 (x :: u) (fun y hy => by
          rcases List.mem_cons.mp hy with z | z
          · rw [z]
            exact x5
          · exact hu y z) eu
        have e1 : (x :: u).length = u.length + 1 := rfl
        omega⟩
      by_cases hx : x = g
      · subst hx
        exact slx_c (gr_least w (st x k) (d - 1) h3 h5 v hv' ev)
      · have : g < x := by
          apply Classical.byContradiction
          intro z
          exact h4 x (by omega) hdx
        exact Or.inl (Or.inr ⟨by show w.length + 1 = v.length + 1; omega, Or.inl this⟩)
end SHB
