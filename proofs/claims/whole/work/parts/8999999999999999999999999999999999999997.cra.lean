/-! circuit: the TEXT -/
/-- what stands in a TEXT: (0 a GATE: kind), (1 a USE: ROUTINE), (2 m, r: kind, WIRE; BIT as the only other one), (3 a block: 12, 13, 14; its digit), (4 a ROUTINE: L, K), (5 the end of a block); -, CONTROLS, WIRES -/
abbrev Ev : Type := Nat × Nat × Nat × Bool × List Nat × List Nat
def evG (k : Nat) (bk : Bool) (cs ws : List Nat) : Ev := (0, k, 0, bk, cs, ws)
def evU (l : Nat) (bk : Bool) (cs ws : List Nat) : Ev := (1, l, 0, bk, cs, ws)
def evM (k w b : Nat) : Ev := (2, k, b, false, [], [w])
def evB (k d : Nat) : Ev := (3, k, d, false, [], [])
def evR' (l k : Nat) : Ev := (4, l, k, false, [], [])
def evC : Ev := (5, 0, 0, false, [], [])
/-- where reading stands: the next place, the FAULT so far, WIRES, [ ], the ROUTINE (4: none), a STATEMENT ahead, the ROUTINES' WIRES -/
abbrev CX : Type := Nat × Nat × Nat × Nat × Nat × Bool × (Nat → Nat)
def cxI (c : CX) : Nat := c.1
def cxF (c : CX) : Nat := c.2.1
def cxW (c : CX) : Nat := c.2.2.1
def cxD (c : CX) : Nat := c.2.2.2.1
def cxR (c : CX) : Nat := c.2.2.2.2.1
def cxA (c : CX) : Bool := c.2.2.2.2.2.1
def cxT (c : CX) : Nat → Nat := c.2.2.2.2.2.2
/-- no TEXT any more (its place), or one more -/
abbrev ER : Type := Nat ⊕ (Ev × CX)
def isDg (c : Nat) : Bool := decide (48 ≤ c) && decide (c ≤ 57)
def ntF (f p k : Nat) : Nat := if f = 0 then 8 * p + k else min f (8 * p + k)
/-- a WIRE is told: the FAULT behind it -/
def twF (fr sn f p w : Nat) : Nat := if fr ≤ w then ntF f p 2 else if sn.testBit w = true then ntF f p 3 else f
def kcN (c : Nat) : Nat := if c = 120 then 0 else if c = 121 then 1 else if c = 122 then 2 else if c = 104 then 3 else if c = 115 then 4 else if c = 116 then 5 else if c = 119 then 8 else 99
section CRA
variable (T : Nat → Nat) (t : Nat)
def crP (i : Nat) : Nat := nxQ T t i
def crC (i : Nat) : Nat := seV T t (crP T t i)
def crA (i : Nat) : Nat := if crP T t i < t then crP T t i + 1 else t
/-- CONTROLS and - : a place where it is no TEXT; or the char behind, its place, the next place, the FAULT, WIRES so far, CONTROLS, - -/
def pfx (fr : Nat) : Nat → Nat → Nat → Nat → Nat → Nat → List Nat → Nat ⊕ (Nat × Nat × Nat × Nat × Nat × List Nat × Bool)
  | 0, c, p, i, f, sn, cs => .inr (c, p, i, f, sn, cs, false)
  | m + 1, c, p, i, f, sn, cs => if isDg c = true then (if crC T t i = 62 then pfx fr m (crC T t (crA T t i)) (crP T t (crA T t i)) (crA T t (crA T t i)) (twF fr sn f p (c - 48)) (sn ||| 2 ^ (c - 48)) (cs ++ [c - 48]) else .inl (crP T t i)) else if c = 45 then .inr (crC T t i, crP T t i, crA T t i, f, sn, cs, true) else .inr (c, p, i, f, sn, cs, false)
/-- more WIRES of a USE: the next place, the FAULT, WIRES -/
def usw (fr : Nat) : Nat → Nat → Nat → Nat → List Nat → Nat × Nat × List Nat
  | 0, i, f, _, ws => (i, f, ws)
  | m + 1, i, f, sn, ws => if isDg (crC T t i) = true then usw fr m (crA T t i) (twF fr sn f (crP T t i) (crC T t i - 48)) (sn ||| 2 ^ (crC T t i - 48)) (ws ++ [crC T t i - 48]) else (i, f, ws)
/-- a STATEMENT was read up to there -/
def cxS (c : CX) (i f : Nat) : CX := (i, f, cxW c, cxD c, cxR c, cxA c || decide (cxR c = 4), cxT c)
/-- a GATE's WIRES, behind its letter -/
def gtE (c : CX) (k i f sn : Nat) (cs : List Nat) (bk : Bool) : ER :=
  if isDg (crC T t i) = true then
    if k = 8 then
      if isDg (crC T t (crA T t i)) = true then
        if crC T t (crA T t (crA T t i)) = 59 then .inr (evG k bk cs [crC T t i - 48, crC T t (crA T t i) - 48], cxS c (crA T t (crA T t (crA T t i))) (twF (cxW c) (sn ||| 2 ^ (crC T t i - 48)) (twF (cxW c) sn f (crP T t i) (crC T t i - 48)) (crP T t (crA T t i)) (crC T t (crA T t i) - 48)))
        else .inl (crP T t (crA T t (crA T t i)))
      else .inl (crP T t (crA T t i))
    else if crC T t (crA T t i) = 59 then .inr (evG k bk cs [crC T t i - 48], cxS c (crA T t (crA T t i)) (twF (cxW c) sn f (crP T t i) (crC T t i - 48)))
    else .inl (crP T t (crA T t i))
  else .inl (crP T t i)
/-- a USE's other WIRES -/
def usQ (c : CX) (l sg dg pd i f sn : Nat) : Nat × Nat × List Nat := usw T t (cxW c) ((if cxT c l = 0 then 4 else cxT c l) - 1) i (twF (cxW c) sn (if cxT c l = 0 then ntF f sg 4 else f) pd dg) (sn ||| 2 ^ dg) [dg]
/-- a USE, behind @ L and its first WIRE -/
def usE (c : CX) (l sg dg pd i f sn : Nat) (cs : List Nat) (bk : Bool) : ER :=
  if crC T t (usQ T t c l sg dg pd i f sn).1 = 59 ∧ (cxT c l = 0 ∨ (usQ T t c l sg dg pd i f sn).2.2.length = cxT c l) then .inr (evU l bk cs (usQ T t c l sg dg pd i f sn).2.2, cxS c (crA T t (usQ T t c l sg dg pd i f sn).1) (usQ T t c l sg dg pd i f sn).2.1) else .inl (crP T t (usQ T t c l sg dg pd i f sn).1)
/-- behind @ -/
def atE (c : CX) (sg i f sn : Nat) (cs : List Nat) (bk : Bool) : ER :=
  if 97 ≤ crC T t i ∧ crC T t i ≤ 100 then
    if isDg (crC T t (crA T t i)) = true then
      if crC T t (crA T t (crA T t i)) = 91 then
        if cs = [] ∧ bk = false ∧ cxR c = 4 ∧ cxA c = false ∧ 49 ≤ crC T t (crA T t i) ∧ crC T t (crA T t i) ≤ 52 then .inr (evR' (crC T t i - 97) (crC T t (crA T t i) - 48), (crA T t (crA T t (crA T t i)), (if cxT c (crC T t i - 97) = 0 then f else ntF f sg 4), crC T t (crA T t i) - 48, cxD c + 1, crC T t i - 97, cxA c, cxT c))
        else .inl (crP T t (crA T t (crA T t i)))
      else usE T t c (crC T t i - 97) sg (crC T t (crA T t i) - 48) (crP T t (crA T t i)) (crA T t (crA T t i)) f sn cs bk
    else .inl (crP T t (crA T t i))
  else .inl (crP T t i)
/-- m and r -/
def msE (c : CX) (k i : Nat) : ER :=
  if isDg (crC T t i) = true then
    if k = 9 then
      if 48 ≤ crC T t (crA T t i) ∧ crC T t (crA T t i) ≤ 51 then
        if crC T t (crA T t (crA T t i)) = 59 then .inr (evM k (crC T t i - 48) (crC T t (crA T t i) - 48), (crA T t (crA T t (crA T t i)), twF (cxW c) 0 (cxF c) (crP T t i) (crC T t i - 48), cxW c, cxD c, cxR c, true, cxT c))
        else .inl (crP T t (crA T t (crA T t i)))
      else .inl (crP T t (crA T t i))
    else if crC T t (crA T t i) = 59 then .inr (evM k (crC T t i - 48) 0, (crA T t (crA T t i), twF (cxW c) 0 (cxF c) (crP T t i) (crC T t i - 48), cxW c, cxD c, cxR c, true, cxT c))
    else .inl (crP T t (crA T t i))
  else .inl (crP T t i)
def blOk (k h : Nat) : Bool := if k = 14 then decide (49 ≤ h) && decide (h ≤ 57) else decide (48 ≤ h) && decide (h ≤ 51)
/-- the start of a block: kinds 12, 13, 14 -/
def blE (c : CX) (k i : Nat) : ER :=
  if blOk k (crC T t i) = true then
    if crC T t (crA T t i) = 91 ∧ cxD c < 8 then .inr (evB k (crC T t i - 48), (crA T t (crA T t i), cxF c, cxW c, cxD c + 1, cxR c, cxA c || decide (cxR c = 4), cxT c))
    else .inl (crP T t (crA T t i))
  else .inl (crP T t i)
/-- the end of one -/
def clE (W : Nat) (c : CX) (p i : Nat) : ER :=
  if cxD c = 0 then .inl p
  else if cxD c = 1 ∧ cxR c ≠ 4 then .inr (evC, (i, cxF c, W, 0, 4, cxA c, fun l => if l = cxR c ∧ cxT c l = 0 then cxW c else cxT c l))
  else .inr (evC, (i, cxF c, cxW c, cxD c - 1, cxR c, cxA c, cxT c))
/-- a GATE, a USE or a ROUTINE, with what was found ahead of its letter -/
def ltE (c : CX) : Nat ⊕ (Nat × Nat × Nat × Nat × Nat × List Nat × Bool) → ER
  | .inl q => .inl q
  | .inr (h', p', i', f', sn, cs, bk) => if h' = 64 then atE T t c p' i' f' sn cs bk else if kcN h' = 99 then .inl p' else gtE T t c (kcN h') i' f' sn cs bk
/-- what stands next -/
def tkE (W : Nat) (c : CX) : ER :=
  if (crC T t (cxI c) = 63 ∨ crC T t (cxI c) = 33 ∨ crC T t (cxI c) = 109 ∨ crC T t (cxI c) = 114) ∧ cxR c ≠ 4 then .inl (crP T t (cxI c))
  else if crC T t (cxI c) = 93 then clE W c (crP T t (cxI c)) (crA T t (cxI c))
  else if crC T t (cxI c) = 42 then blE T t c 14 (crA T t (cxI c))
  else if crC T t (cxI c) = 63 then blE T t c 12 (crA T t (cxI c))
  else if crC T t (cxI c) = 33 then blE T t c 13 (crA T t (cxI c))
  else if crC T t (cxI c) = 109 then msE T t c 9 (crA T t (cxI c))
  else if crC T t (cxI c) = 114 then msE T t c 10 (crA T t (cxI c))
  else ltE T t c (pfx T t (cxW c) 400 (crC T t (cxI c)) (crP T t (cxI c)) (crA T t (cxI c)) (cxF c) 0 [])
/-- STATEMENTS, each with the number of those in it, which follow it at once -/
abbrev Tr : Type := List (Ev × Nat)
variable (W : Nat)
/-- STATEMENTS that are read whole -/
def PF : Nat → CX → Tr → CX → Prop
  | 0, c, L, c' => L = [] ∧ c = c'
  | m + 1, c, L, c' => match L with
    | [] => c = c'
    | (e, s) :: L => ∃ c1, tkE T t W c = .inr (e, c1) ∧ ((e.1 < 3 ∧ s = 0 ∧ PF m c1 L c') ∨ ((e.1 = 3 ∨ e.1 = 4) ∧ s ≤ L.length ∧ ∃ c2 c3, PF m c1 (L.take s) c2 ∧ tkE T t W c2 = .inr (evC, c3) ∧ PF m c3 (L.drop s) c'))
/-- one after another -/
def PSn : Nat → CX → CX → Prop
  | 0, c, c' => c = c'
  | m + 1, c, c' => ∃ e c1, tkE T t W c = .inr (e, c1) ∧ PSn m c1 c'
/-- it is no TEXT, found there -/
def PRt (c : CX) (p : Nat) : Prop := ∃ m c1, PSn T t W m c c1 ∧ tkE T t W c1 = .inl p
variable {T t W}
theorem PS_t : ∀ (m n : Nat) {a b c : CX}, PSn T t W m a b → PSn T t W n b c → PSn T t W (m + n) a c
  | 0, n, a, b, c, h, g => by
    have h : a = b := h
    rw [Nat.zero_add, h]
    exact g
  | m + 1, n, a, b, c, h, g => by
    obtain ⟨e, c1, h1, h2⟩ := h
    rw [show m + 1 + n = (m + n) + 1 by omega]
    exact ⟨e, c1, h1, PS_t m n h2 g⟩
theorem PF_S : ∀ (m : Nat) {a b : CX} {L : Tr}, PF T t W m a L b → ∃ n, PSn T t W n a b
  | 0, a, b, L, h => ⟨0, h.2⟩
  | m + 1, a, b, L, h => by
    cases L with
    | nil => exact ⟨0, h⟩
    | cons x L =>
      obtain ⟨e, s⟩ := x
      obtain ⟨c1, h1, ⟨_, _, h2⟩ | ⟨_, _, c2, c3, h2, h3, h4⟩⟩ := h
      · obtain ⟨n, q⟩ := PF_S m h2
        exact ⟨n + 1, e, c1, h1, q⟩
      · obtain ⟨n, q⟩ := PF_S m h2
        obtain ⟨k, r⟩ := PF_S m h4
        have z := PS_t n (k + 1) q ⟨evC, c3, h3, r⟩
        exact ⟨n + (k + 1) + 1, e, c1, h1, z⟩
theorem PR_s {c c1 : CX} {e : Ev} {p : Nat} (h : tkE T t W c = .inr (e, c1)) (g : PRt T t W c1 p) : PRt T t W c p := by
  obtain ⟨m, c2, a, b⟩ := g
  exact ⟨m + 1, c2, ⟨e, c1, h, a⟩, b⟩
theorem PR_F {c c1 : CX} {L : Tr} {p m : Nat} (h : PF T t W m c L c1) (g : PRt T t W c1 p) : PRt T t W c p := by
  obtain ⟨k, c2, a, b⟩ := g
  obtain ⟨n, q⟩ := PF_S m h
  exact ⟨n + k, c2, PS_t n k q a, b⟩
/-- more time -/
theorem PF_m : ∀ (m : Nat) {a b : CX} {L : Tr}, PF T t W m a L b → PF T t W (m + 1) a L b
  | 0, a, b, L, h => by
    obtain ⟨h1, h2⟩ := h
    subst h1
    exact h2
  | m + 1, a, b, L, h => by
    cases L with
    | nil => exact h
    | cons x L =>
      obtain ⟨e, s⟩ := x
      obtain ⟨c1, h1, ⟨h0, hs, h2⟩ | ⟨h0, hs, c2, c3, h2, h3, h4⟩⟩ := h
      · exact ⟨c1, h1, Or.inl ⟨h0, hs, PF_m m h2⟩⟩
      · exact ⟨c1, h1, Or.inr ⟨h0, hs, c2, c3, PF_m m h2, h3, PF_m m h4⟩⟩
theorem PF_k {m : Nat} {a b : CX} {L : Tr} (h : PF T t W m a L b) : ∀ k, PF T t W (m + k) a L b
  | 0 => h
  | k + 1 => PF_m (m + k) (PF_k h k)
/-- one after another, whole ones -/
theorem PF_a : ∀ (m : Nat) {n : Nat} {a b c : CX} {L K : Tr}, PF T t W m a L b → PF T t W n b K c → ∃ k, PF T t W k a (L ++ K) c
  | 0, n, a, b, c, L, K, h, g => by
    obtain ⟨h1, h2⟩ := h
    subst h1
    subst h2
    exact ⟨n, g⟩
  | m + 1, n, a, b, c, L, K, h, g => by
    cases L with
    | nil =>
      have h : a = b := h
      subst h
      exact ⟨n, g⟩
    | cons x L =>
      obtain ⟨e, s⟩ := x
      obtain ⟨c1, h1, ⟨h0, hs, h2⟩ | ⟨h0, hs, c2, c3, h2, h3, h4⟩⟩ := h
      · obtain ⟨k, q⟩ := PF_a m h2 g
        exact ⟨k + 1, c1, h1, Or.inl ⟨h0, hs, q⟩⟩
      · obtain ⟨k, q⟩ := PF_a m h4 g
        refine ⟨m + k + 1, c1, h1, Or.inr ⟨h0, ?_, c2, c3, ?_, h3, ?_⟩⟩
        · show s ≤ (L ++ K).length
          rw [List.length_append]
          omega
        · show PF T t W (m + k) c1 (List.take s (L ++ K)) c2
          rw [List.take_append_of_le_length hs]
          exact PF_k h2 k
        · show PF T t W (m + k) c3 (List.drop s (L ++ K)) c
          rw [List.drop_append_of_le_length hs, Nat.add_comm]
          exact PF_k q m
end CRA
section CRB
variable {T : Nat → Nat} {t : Nat}
theorem crp_1 {i : Nat} (h : i ≤ t) : i ≤ crP T t i ∧ crP T t i ≤ t := ⟨(nxQ_1 h).1, (nxQ_1 h).2.1⟩
theorem cra_1 {i : Nat} (h : i ≤ t) : i ≤ crA T t i ∧ crA T t i ≤ t ∧ (crP T t i < t → i < crA T t i) := by
  obtain ⟨a, b⟩ := crp_1 (T := T) h
  unfold crA
  split <;> omega
theorem crc_1 {i : Nat} (hT : ∀ j, j < t → T j < 127) : crC T t i < 127 := by
  unfold crC seV
  split
  · rename_i h
    exact hT _ h
  · decide
theorem crn_1 {i : Nat} (h : crC T t i ≠ 0) : crP T t i < t := by
  unfold crC seV at h
  by_cases q : crP T t i < t
  · exact q
  · rw [if_neg q] at h
    exact absurd rfl h
theorem cr0_1 {i : Nat} (hi : i ≤ t) (h : ¬ crP T t i < t) : crP T t i = t ∧ crC T t i = 0 ∧ crA T t i = t := by
  have := crp_1 (T := T) hi
  refine ⟨by omega, ?_, if_neg h⟩
  unfold crC seV
  rw [if_neg h]
end CRB
