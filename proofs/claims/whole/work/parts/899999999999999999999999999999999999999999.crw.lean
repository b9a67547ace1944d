/-! circuit: trees of STATEMENTS, as functions -/
/-- OPS of a STATEMENT, with those of what is in it -/
def jtO (R : Nat → List bk_X) (e : Ev) (B : List bk_X) : List bk_X :=
  if e.1 = 3 then (if e.2.1 = 14 then rpt B e.2.2.1 else B.map (adA (askA (0, 0) e.2.1 e.2.2.1))) else if e.1 = 4 then [] else if e.1 = 1 then usL e (R e.2.1) else [evX (0, 0) e]
def jtN (R : Nat → List bk_X) : Nat → Tr → List bk_X
  | 0, _ => []
  | _ + 1, [] => []
  | m + 1, (e, s) :: L => jtO R e (jtN R m (L.take s)) ++ jtN R m (L.drop s)
def jtF (R : Nat → List bk_X) (L : Tr) : List bk_X := jtN R L.length L
theorem jtN_e (R : Nat → List bk_X) : ∀ (m n : Nat) (L : Tr), L.length ≤ m → L.length ≤ n → jtN R m L = jtN R n L
  | 0, n, L, h, _ => by
    have : L = [] := List.eq_nil_of_length_eq_zero (by omega)
    subst this
    cases n <;> rfl
  | m + 1, 0, L, _, g => by
    have : L = [] := List.eq_nil_of_length_eq_zero (by omega)
    subst this
    rfl
  | m + 1, n + 1, [], _, _ => rfl
  | m + 1, n + 1, (e, s) :: L, h, g => by
    have h : L.length + 1 ≤ m + 1 := h
    have g : L.length + 1 ≤ n + 1 := g
    show jtO R e (jtN R m (L.take s)) ++ jtN R m (L.drop s) = jtO R e (jtN R n (L.take s)) ++ jtN R n (L.drop s)
    rw [jtN_e R m n (L.take s) (by rw [List.length_take]; omega) (by rw [List.length_take]; omega), jtN_e R m n (L.drop s) (by rw [List.length_drop]; omega) (by rw [List.length_drop]; omega)]
theorem jtF_c (R : Nat → List bk_X) (e : Ev) (s : Nat) (L : Tr) : jtF R ((e, s) :: L) = jtO R e (jtF R (L.take s)) ++ jtF R (L.drop s) := by
  show jtO R e (jtN R L.length (L.take s)) ++ jtN R L.length (L.drop s) = _
  unfold jtF
  rw [jtN_e R L.length (L.take s).length (L.take s) (by rw [List.length_take]; omega) (Nat.le_refl _), jtN_e R L.length (L.drop s).length (L.drop s) (by rw [List.length_drop]; omega) (Nat.le_refl _)]
theorem jtF_a (R : Nat → List bk_X) (e : Ev) (B L : Tr) : jtF R ((e, B.length) :: (B ++ L)) = jtO R e (jtF R B) ++ jtF R L := by
  rw [jtF_c, List.take_append_of_le_length (Nat.le_refl _), List.take_length, List.drop_append_of_le_length (Nat.le_refl _), List.drop_length]
  rfl
/-- a STATEMENT, and what is in it -/
def jn (S : Ev × Tr) : Tr := (S.1, S.2.length) :: S.2
def flT : List (Ev × Tr) → Tr
  | [] => []
  | S :: Ss => jn S ++ flT Ss
theorem jn_l (S : Ev × Tr) : (jn S).length = S.2.length + 1 := rfl
theorem fl_a : ∀ (A B : List (Ev × Tr)), flT (A ++ B) = flT A ++ flT B
  | [], _ => rfl
  | S :: A, B => by
    show jn S ++ flT (A ++ B) = jn S ++ flT A ++ flT B
    rw [fl_a A B, List.append_assoc]
theorem fl_1 (S : Ev × Tr) : flT [S] = jn S := List.append_nil _
theorem jtF_f (R : Nat → List bk_X) (S : Ev × Tr) (Ss : List (Ev × Tr)) : jtF R (flT (S :: Ss)) = jtO R S.1 (jtF R S.2) ++ jtF R (flT Ss) := jtF_a R S.1 S.2 (flT Ss)
theorem jtF_p (R : Nat → List bk_X) : ∀ (A B : List (Ev × Tr)), jtF R (flT (A ++ B)) = jtF R (flT A) ++ jtF R (flT B)
  | [], _ => rfl
  | S :: A, B => by
    show jtF R (flT (S :: (A ++ B))) = _
    rw [jtF_f, jtF_f, jtF_p R A B, List.append_assoc]
theorem jtF_1 (R : Nat → List bk_X) (S : Ev × Tr) : jtF R (flT [S]) = jtO R S.1 (jtF R S.2) := by
  rw [jtF_f]
  exact List.append_nil _
/-- one after another, each at its place -/
def sqN (φ : Nat → Ev × Tr → Prop) : Nat → List (Ev × Tr) → Prop
  | _, [] => True
  | k, S :: Ss => φ k S ∧ sqN φ (k + (jn S).length) Ss
theorem sqN_a {φ : Nat → Ev × Tr → Prop} : ∀ (A B : List (Ev × Tr)) (k : Nat), sqN φ k A → sqN φ (k + (flT A).length) B → sqN φ k (A ++ B)
  | [], B, k, _, h => h
  | S :: A, B, k, g, h => by
    refine ⟨g.1, sqN_a A B (k + (jn S).length) g.2 ?_⟩
    have e : k + (jn S).length + (flT A).length = k + (flT (S :: A)).length := by
      show _ = k + (jn S ++ flT A).length
      rw [List.length_append]
      omega
    rw [e]
    exact h
theorem sqN_b {φ : Nat → Ev × Tr → Prop} : ∀ (A B : List (Ev × Tr)) (k : Nat), sqN φ k (A ++ B) → sqN φ k A ∧ sqN φ (k + (flT A).length) B
  | [], B, k, h => ⟨trivial, h⟩
  | S :: A, B, k, h => by
    obtain ⟨h1, h2⟩ := sqN_b A B (k + (jn S).length) h.2
    have e : k + (jn S).length + (flT A).length = k + (flT (S :: A)).length := by
      show _ = k + (jn S ++ flT A).length
      rw [List.length_append]
      omega
    rw [e] at h2
    exact ⟨⟨h.1, h1⟩, h2⟩
theorem sqN_m {φ ψ : Nat → Ev × Tr → Prop} (m : ∀ k S, φ k S → ψ k S) : ∀ (A : List (Ev × Tr)) (k : Nat), sqN φ k A → sqN ψ k A
  | [], _, _ => trivial
  | _ :: A, k, h => ⟨m _ _ h.1, sqN_m m A _ h.2⟩
/-- a STATEMENT that can be laid, at place n; rb: in a ROUTINE; Q: where ROUTINES stand; Tw: their WIRES -/
def lgE (Q : Nat → Nat × Tr) (Tw : Nat → Nat) (rb : Bool) (wd n : Nat) (e : Ev) : Prop :=
  (∃ k bk cs ws, e = evG k bk cs ws ∧ k ≤ 8 ∧ k ≠ 6 ∧ k ≠ 7 ∧ ws.length = (if k = 8 then 2 else 1) ∧ evk wd (cs ++ ws)) ∨
  (∃ l bk cs ws, e = evU l bk cs ws ∧ l < 4 ∧ Tw l ≠ 0 ∧ ws.length = Tw l ∧ evk wd (cs ++ ws) ∧ (Q l).1 + (Q l).2.length ≤ n) ∨
  (∃ k w b, e = evM k w b ∧ rb = false ∧ ((k = 9 ∧ b < 4) ∨ (k = 10 ∧ b = 0)) ∧ w < wd) ∨
  (∃ k q, e = evB k q ∧ ((k = 14 ∧ 1 ≤ q ∧ q ≤ 9) ∨ ((k = 12 ∨ k = 13) ∧ q < 4 ∧ rb = false))) ∨
  (∃ l k, e = evR' l k ∧ rb = false)
/-- what stands in a block; bs: where ROUTINES that are used end at the latest -/
def wfB (Q : Nat → Nat × Tr) (Tw : Nat → Nat) : Nat → Bool → Nat → Nat → Tr → Prop
  | 0, _, _, _, L => L = []
  | m + 1, rb, wd, bs, L => ∃ Ss : List (Ev × Tr), L = flT Ss ∧ ∀ S, S ∈ Ss → lgE Q Tw rb wd bs S.1 ∧ (S.1.1 < 3 → S.2 = []) ∧ (S.1.1 = 3 → wfB Q Tw m rb wd bs S.2)
def ekB (Q : Nat → Nat × Tr) (Tw : Nat → Nat) (rb : Bool) (wd bs : Nat) (L : Tr) : Prop := ∃ m, wfB Q Tw m rb wd bs L
def wfT (Q : Nat → Nat × Tr) (Tw : Nat → Nat) (rb : Bool) (wd k : Nat) (L : Tr) : Prop := ∃ Ss : List (Ev × Tr), L = flT Ss ∧ sqN (fun q S => lgE Q Tw rb wd q S.1 ∧ (S.1.1 < 3 → S.2 = []) ∧ (S.1.1 = 3 → ekB Q Tw rb wd q S.2)) k Ss
theorem wfB_m {Q : Nat → Nat × Tr} {Tw : Nat → Nat} : ∀ (m : Nat) {rb : Bool} {wd bs : Nat} {L : Tr}, wfB Q Tw m rb wd bs L → wfB Q Tw (m + 1) rb wd bs L
  | 0, rb, wd, bs, L, h => ⟨[], h, fun S hS => absurd hS List.not_mem_nil⟩
  | m + 1, rb, wd, bs, L, h => by
    obtain ⟨Ss, h1, h2⟩ := h
    exact ⟨Ss, h1, fun S hS => ⟨(h2 S hS).1, (h2 S hS).2.1, fun y => wfB_m m ((h2 S hS).2.2 y)⟩⟩
theorem wfB_k {Q : Nat → Nat × Tr} {Tw : Nat → Nat} {m : Nat} {rb : Bool} {wd bs : Nat} {L : Tr} (h : wfB Q Tw m rb wd bs L) : ∀ j, wfB Q Tw (m + j) rb wd bs L
  | 0 => h
  | j + 1 => wfB_m (m + j) (wfB_k h j)
theorem wf_0 (Q : Nat → Nat × Tr) (Tw : Nat → Nat) (rb : Bool) (wd k : Nat) : wfT Q Tw rb wd k [] := ⟨[], rfl, trivial⟩
theorem wf_s {Q : Nat → Nat × Tr} {Tw : Nat → Nat} {rb : Bool} {wd k : Nat} {e : Ev} {B : Tr} (h1 : lgE Q Tw rb wd k e) (h2 : e.1 < 3 → B = []) (h3 : e.1 = 3 → ekB Q Tw rb wd k B) : wfT Q Tw rb wd k (flT [(e, B)]) := ⟨[(e, B)], rfl, ⟨h1, h2, h3⟩, trivial⟩
theorem wf_a {Q : Nat → Nat × Tr} {Tw : Nat → Nat} {rb : Bool} {wd k : Nat} {A B : Tr} (h : wfT Q Tw rb wd k A) (g : wfT Q Tw rb wd (k + A.length) B) : wfT Q Tw rb wd k (A ++ B) := by
  obtain ⟨S1, e1, p1⟩ := h
  obtain ⟨S2, e2, p2⟩ := g
  refine ⟨S1 ++ S2, by rw [fl_a, e1, e2], sqN_a S1 S2 k p1 ?_⟩
  rw [← e1]
  exact p2
/-- other ROUTINES come to it; another bound -/
theorem lgE_q {Q Q' : Nat → Nat × Tr} {Tw Tw' : Nat → Nat} (hq : ∀ l, l < 4 → Tw l ≠ 0 → Tw' l = Tw l ∧ Q' l = Q l) {rb : Bool} {wd n n' : Nat} (hb : n' = n ∨ ∀ l, l < 4 → Tw l ≠ 0 → (Q l).1 + (Q l).2.length ≤ n') {e : Ev} (h : lgE Q Tw rb wd n e) : lgE Q' Tw' rb wd n' e := by
  rcases h with h | ⟨l, bk, cs, ws, h1, h2, h3, h4, h5, h6⟩ | h
  · exact Or.inl h
  · obtain ⟨a, b⟩ := hq l h2 h3
    refine Or.inr (Or.inl ⟨l, bk, cs, ws, h1, h2, by rw [a]; exact h3, by rw [a]; exact h4, h5, ?_⟩)
    rw [b]
    rcases hb with z | z
    · rw [z]
      exact h6
    · exact z l h2 h3
  · exact Or.inr (Or.inr h)
theorem wfB_q {Q Q' : Nat → Nat × Tr} {Tw Tw' : Nat → Nat} (hq : ∀ l, l < 4 → Tw l ≠ 0 → Tw' l = Tw l ∧ Q' l = Q l) {n n' : Nat} (hb : n' = n ∨ ∀ l, l < 4 → Tw l ≠ 0 → (Q l).1 + (Q l).2.length ≤ n') : ∀ (m : Nat) {rb : Bool} {wd : Nat} {L : Tr}, wfB Q Tw m rb wd n L → wfB Q' Tw' m rb wd n' L
  | 0, rb, wd, L, h => h
  | m + 1, rb, wd, L, h => by
    obtain ⟨Ss, h1, h2⟩ := h
    exact ⟨Ss, h1, fun S hS => ⟨lgE_q hq hb (h2 S hS).1, (h2 S hS).2.1, fun y => wfB_q hq hb m ((h2 S hS).2.2 y)⟩⟩
theorem ekB_q {Q Q' : Nat → Nat × Tr} {Tw Tw' : Nat → Nat} (hq : ∀ l, l < 4 → Tw l ≠ 0 → Tw' l = Tw l ∧ Q' l = Q l) {n n' : Nat} (hb : n' = n ∨ ∀ l, l < 4 → Tw l ≠ 0 → (Q l).1 + (Q l).2.length ≤ n') {rb : Bool} {wd : Nat} {L : Tr} (h : ekB Q Tw rb wd n L) : ekB Q' Tw' rb wd n' L := by
  obtain ⟨m, h⟩ := h
  exact ⟨m, wfB_q hq hb m h⟩
theorem wf_q {Q Q' : Nat → Nat × Tr} {Tw Tw' : Nat → Nat} (hq : ∀ l, l < 4 → Tw l ≠ 0 → Tw' l = Tw l ∧ Q' l = Q l) {rb : Bool} {wd k : Nat} {L : Tr} (h : wfT Q Tw rb wd k L) : wfT Q' Tw' rb wd k L := by
  obtain ⟨Ss, h1, h2⟩ := h
  exact ⟨Ss, h1, sqN_m (fun q S z => ⟨lgE_q hq (Or.inl rfl) z.1, z.2.1, fun y => ekB_q hq (Or.inl rfl) (z.2.2 y)⟩) Ss k h2⟩
/-- STATEMENTS that stand in a block -/
theorem ekB_s {Q : Nat → Nat × Tr} {Tw : Nat → Nat} {rb : Bool} {wd bs : Nat} : ∀ (Ss : List (Ev × Tr)), (∀ S, S ∈ Ss → lgE Q Tw rb wd bs S.1 ∧ (S.1.1 < 3 → S.2 = []) ∧ (S.1.1 = 3 → ekB Q Tw rb wd bs S.2)) → ekB Q Tw rb wd bs (flT Ss)
  | [], _ => ⟨0, rfl⟩
  | S :: Ss, h => by
    obtain ⟨m, g⟩ := ekB_s Ss (fun S hS => h S (List.mem_cons_of_mem _ hS))
    obtain ⟨h1, h2, h3⟩ := h S List.mem_cons_self
    have go : ∀ j, (S.1.1 = 3 → wfB Q Tw j rb wd bs S.2) → ekB Q Tw rb wd bs (flT (S :: Ss)) := by
      intro j hj
      have g := wfB_k g (j + 1)
      rw [show m + (j + 1) = (j + m) + 1 by omega] at g
      obtain ⟨Z, e1, p1⟩ := g
      refine ⟨j + m + 1, S :: Z, ?_, fun S' hS' => ?_⟩
      · show jn S ++ flT Ss = jn S ++ flT Z
        rw [e1]
      · rcases List.mem_cons.mp hS' with y | y
        · rw [y]
          exact ⟨h1, h2, fun z => wfB_k (hj z) m⟩
        · exact p1 S' y
    by_cases z : S.1.1 = 3
    · obtain ⟨j, hj⟩ := h3 z
      exact go j (fun _ => hj)
    · exact go 0 (fun y => absurd y z)
theorem sqN_i {φ : Nat → Ev × Tr → Prop} {ψ : Ev × Tr → Prop} (m : ∀ k S, φ k S → ψ S) : ∀ (A : List (Ev × Tr)) (k : Nat), sqN φ k A → ∀ S, S ∈ A → ψ S
  | [], _, _ => fun S hS => absurd hS List.not_mem_nil
  | Z :: A, k, h => fun S hS => by
    rcases List.mem_cons.mp hS with y | y
    · rw [y]
      exact m _ _ h.1
    · exact sqN_i m A _ h.2 S y
theorem wf_b {Q : Nat → Nat × Tr} {Tw : Nat → Nat} {rb : Bool} {wd k bs : Nat} {L : Tr} (hb : ∀ l, l < 4 → Tw l ≠ 0 → (Q l).1 + (Q l).2.length ≤ bs) (h : wfT Q Tw rb wd k L) : ekB Q Tw rb wd bs L := by
  obtain ⟨Ss, h1, h2⟩ := h
  rw [h1]
  exact ekB_s Ss (sqN_i (fun q S z => ⟨lgE_q (fun _ _ _ => ⟨rfl, rfl⟩) (Or.inr hb) z.1, z.2.1, fun y => ekB_q (fun _ _ _ => ⟨rfl, rfl⟩) (Or.inr hb) (z.2.2 y)⟩) Ss k h2)
/-- OPS are those of the ROUTINES that are told -/
theorem jtO_r {R R' : Nat → List bk_X} {e : Ev} {B B' : List bk_X} (h1 : e.1 = 1 → R e.2.1 = R' e.2.1) (h3 : e.1 = 3 → B = B') : jtO R e B = jtO R' e B' := by
  unfold jtO
  by_cases a : e.1 = 3
  · rw [if_pos a, if_pos a, h3 a]
  · rw [if_neg a, if_neg a]
    by_cases b : e.1 = 4
    · rw [if_pos b, if_pos b]
    · rw [if_neg b, if_neg b]
      by_cases c : e.1 = 1
      · rw [if_pos c, if_pos c, h1 c]
      · rw [if_neg c, if_neg c]
theorem lgE_r {R R' : Nat → List bk_X} {Q : Nat → Nat × Tr} {Tw : Nat → Nat} (hr : ∀ l, l < 4 → Tw l ≠ 0 → R l = R' l) {rb : Bool} {wd n : Nat} {e : Ev} (z1 : lgE Q Tw rb wd n e) (q : e.1 = 1) : R e.2.1 = R' e.2.1 := by
  rcases z1 with ⟨_, _, _, _, y, _⟩ | ⟨l, bk, cs, ws, y, l4, y3, _⟩ | ⟨_, _, _, y, _⟩ | ⟨_, _, y, _⟩ | ⟨_, _, y, _⟩
  · rw [y] at q; exact absurd q (by show ¬ (0 = 1); decide)
  · rw [y]
    exact hr l l4 y3
  · rw [y] at q; exact absurd q (by show ¬ (2 = 1); decide)
  · rw [y] at q; exact absurd q (by show ¬ (3 = 1); decide)
  · rw [y] at q; exact absurd q (by show ¬ (4 = 1); decide)
theorem jtF_r {R R' : Nat → List bk_X} : ∀ (Ss : List (Ev × Tr)), (∀ S, S ∈ Ss → (S.1.1 = 1 → R S.1.2.1 = R' S.1.2.1) ∧ (S.1.1 = 3 → jtF R S.2 = jtF R' S.2)) → jtF R (flT Ss) = jtF R' (flT Ss)
  | [], _ => rfl
  | S :: Ss, h => by
    rw [jtF_f, jtF_f, jtF_r Ss (fun S hS => h S (List.mem_cons_of_mem _ hS))]
    congr 1
    obtain ⟨h1, h2⟩ := h S List.mem_cons_self
    exact jtO_r h1 h2
theorem jtB_r {R R' : Nat → List bk_X} {Q : Nat → Nat × Tr} {Tw : Nat → Nat} (hr : ∀ l, l < 4 → Tw l ≠ 0 → R l = R' l) : ∀ (m : Nat) {rb : Bool} {wd bs : Nat} {L : Tr}, wfB Q Tw m rb wd bs L → jtF R L = jtF R' L
  | 0, rb, wd, bs, L, h => by
    have h : L = [] := h
    rw [h]
    rfl
  | m + 1, rb, wd, bs, L, h => by
    obtain ⟨Ss, h1, h2⟩ := h
    rw [h1]
    exact jtF_r Ss (fun S hS => ⟨lgE_r hr (h2 S hS).1, fun y => jtB_r hr m ((h2 S hS).2.2 y)⟩)
theorem jt_rB {R R' : Nat → List bk_X} {Q : Nat → Nat × Tr} {Tw : Nat → Nat} (hr : ∀ l, l < 4 → Tw l ≠ 0 → R l = R' l) {rb : Bool} {wd bs : Nat} {L : Tr} (h : ekB Q Tw rb wd bs L) : jtF R L = jtF R' L := by
  obtain ⟨m, h⟩ := h
  exact jtB_r hr m h
theorem jt_r {R R' : Nat → List bk_X} {Q : Nat → Nat × Tr} {Tw : Nat → Nat} (hr : ∀ l, l < 4 → Tw l ≠ 0 → R l = R' l) {rb : Bool} {wd k : Nat} {L : Tr} (h : wfT Q Tw rb wd k L) : jtF R L = jtF R' L := by
  obtain ⟨Ss, h1, h2⟩ := h
  rw [h1]
  exact jtF_r Ss (sqN_i (fun q S z => ⟨lgE_r hr z.1, fun y => jt_rB hr (z.2.2 y)⟩) Ss k h2)
/-- nodes -/
def wtE (e : Ev) : Nat := if e.1 = 1 then 11 else if e.1 = 4 then 15 else e.2.1
def nuE (e : Ev) : Nat := if e.1 = 1 then e.2.1 else e.2.2.1
def evW (e : Ev) : List Nat := e.2.2.2.2.1 ++ e.2.2.2.2.2
/-- a node at the reference: its STATEMENT, how many are in it; tl: WIRES told so far -/
def ndH (M : mm_M) (tl n : Nat) (e : Ev) (s : Nat) : Prop := M.1 120 n = nI (wtE e) ∧ (∃ fw, fw + (evW e).length ≤ tl ∧ M.1 121 n = nI fw ∧ ∀ j, j < (evW e).length → M.1 127 (fw + j) = nI ((evW e).getD j 0)) ∧ M.1 122 n = nI (evW e).length ∧ M.1 123 n = nI e.2.2.2.2.1.length ∧ M.1 124 n = b01 e.2.2.2.1 ∧ (e.1 ≠ 4 → M.1 125 n = nI (nuE e)) ∧ M.1 126 n = nI (n + 1 + s)
def trH (M : mm_M) (tl k : Nat) (L : Tr) : Prop := ∀ j, j < L.length → ndH M tl (k + j) (L.getD j (evC, 0)).1 (L.getD j (evC, 0)).2
/-- what stood ahead is as it was -/
def kpt (k tl : Nat) (M N : mm_M) : Prop := (∀ q, 120 ≤ q → q ≤ 126 → ∀ j, j < k → N.1 q j = M.1 q j) ∧ ∀ j, j < tl → N.1 127 j = M.1 127 j
theorem kpt_r (k tl : Nat) (M : mm_M) : kpt k tl M M := ⟨fun _ _ _ _ _ => rfl, fun _ _ => rfl⟩
theorem kpt_t {k tl : Nat} {M N K : mm_M} (h : kpt k tl M N) (g : kpt k tl N K) : kpt k tl M K := ⟨fun q a b j hj => (g.1 q a b j hj).trans (h.1 q a b j hj), fun j hj => (g.2 j hj).trans (h.2 j hj)⟩
theorem kpt_w {k tl k' tl' : Nat} {M N : mm_M} (hk : k ≤ k') (ht : tl ≤ tl') (h : kpt k' tl' M N) : kpt k tl M N := ⟨fun q a b j hj => h.1 q a b j (by omega), fun j hj => h.2 j (by omega)⟩
theorem ndH_k {k tl tl' n s : Nat} {M N : mm_M} {e : Ev} (hk : kpt k tl M N) (hn : n < k) (ht : tl ≤ tl') (h : ndH M tl n e s) : ndH N tl' n e s := by
  obtain ⟨h1, ⟨fw, f1, f2, f3⟩, h3, h4, h5, h6, h7⟩ := h
  refine ⟨?_, ⟨fw, by omega, ?_, fun j hj => ?_⟩, ?_, ?_, ?_, fun q => ?_, ?_⟩
  · rw [hk.1 120 (by decide) (by decide) n hn]; exact h1
  · rw [hk.1 121 (by decide) (by decide) n hn]; exact f2
  · rw [hk.2 _ (by omega)]; exact f3 j hj
  · rw [hk.1 122 (by decide) (by decide) n hn]; exact h3
  · rw [hk.1 123 (by decide) (by decide) n hn]; exact h4
  · rw [hk.1 124 (by decide) (by decide) n hn]; exact h5
  · rw [hk.1 125 (by decide) (by decide) n hn]; exact h6 q
  · rw [hk.1 126 (by decide) (by decide) n hn]; exact h7
theorem trH_k {k tl tl' n : Nat} {M N : mm_M} {L : Tr} (hk : kpt k tl M N) (hn : n + L.length ≤ k) (ht : tl ≤ tl') (h : trH M tl n L) : trH N tl' n L := fun j hj => ndH_k hk (by omega) ht (h j hj)
theorem trH_a {M : mm_M} {tl k : Nat} {A B : Tr} (h : trH M tl k A) (g : trH M tl (k + A.length) B) : trH M tl k (A ++ B) := by
  intro j hj
  rw [List.length_append] at hj
  rw [List.getD_eq_getElem?_getD]
  by_cases q : j < A.length
  · rw [List.getElem?_append_left q, ← List.getD_eq_getElem?_getD]
    exact h j q
  · rw [List.getElem?_append_right (by omega), ← List.getD_eq_getElem?_getD]
    have := g (j - A.length) (by omega)
    rw [show k + A.length + (j - A.length) = k + j by omega] at this
    exact this
theorem trH_b {M : mm_M} {tl k : Nat} {A B : Tr} (h : trH M tl k (A ++ B)) : trH M tl k A ∧ trH M tl (k + A.length) B := by
  refine ⟨fun j hj => ?_, fun j hj => ?_⟩
  · have := h j (by rw [List.length_append]; omega)
    rw [List.getD_eq_getElem?_getD, List.getElem?_append_left hj, ← List.getD_eq_getElem?_getD] at this
    exact this
  · have := h (A.length + j) (by rw [List.length_append]; omega)
    rw [List.getD_eq_getElem?_getD, List.getElem?_append_right (by omega), ← List.getD_eq_getElem?_getD, Nat.add_sub_cancel_left, ← Nat.add_assoc] at this
    exact this
theorem trH_s {M : mm_M} {tl k : Nat} {e : Ev} {B : Tr} (h : ndH M tl k e B.length) (g : trH M tl (k + 1) B) : trH M tl k (jn (e, B)) := by
  intro j hj
  cases j with
  | zero => exact h
  | succ j =>
    have hj : j + 1 < B.length + 1 := hj
    have := g j (by omega)
    rw [show k + 1 + j = k + (j + 1) by omega] at this
    exact this
theorem trH_0 {M : mm_M} {tl k : Nat} {e : Ev} {B : Tr} (h : trH M tl k (jn (e, B))) : ndH M tl k e B.length ∧ trH M tl (k + 1) B := by
  refine ⟨h 0 (by show 0 < B.length + 1; omega), fun j hj => ?_⟩
  have := h (j + 1) (by show j + 1 < B.length + 1; omega)
  rw [show k + (j + 1) = k + 1 + j by omega] at this
  exact this
