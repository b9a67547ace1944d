/-! DIAGRAMS: a pivot, as a function -/
def sdW (W : WB) (a b x : Nat) : Nat := if x = a ∨ x = b then 0 else (if W.2.2 x a = 0 then 0 else 1) + (if W.2.2 x b = 0 then 0 else 2)
abbrev prS (s : Nat → Nat) (x y : Nat) : Prop := (s x = 3 ∧ (s y = 1 ∨ s y = 2)) ∨ (s x = 1 ∧ s y = 2)
abbrev dfS (s : Nat → Nat) (x y : Nat) : Prop := s x ≠ 0 ∧ s y ≠ 0 ∧ s x ≠ s y
def Dc (s : Nat → Nat) (i j x y : Nat) : Bool := decide ((x < i ∧ prS s x y) ∨ (y < i ∧ prS s y x) ∨ (x = i ∧ y < j ∧ prS s x y) ∨ (y = i ∧ x < j ∧ prS s y x))
def Dr (s : Nat → Nat) (i j x y : Nat) : Bool := decide (dfS s x y ∧ ((x < i ∧ y < x) ∨ (y < i ∧ x < y) ∨ (x = i ∧ y < j ∧ y < i) ∨ (y = i ∧ x < j ∧ x < i)))
def tgE (E : Nat → Nat → Nat) (D : Nat → Nat → Bool) : Nat → Nat → Nat := fun x y => if D x y = true then (if E x y = 0 then 2 else 0) else E x y
theorem tg_t {E : Nat → Nat → Nat} {D : Nat → Nat → Bool} {x y : Nat} (h : D x y = true) : tgE E D x y = if E x y = 0 then 2 else 0 := if_pos h
theorem tg_f {E : Nat → Nat → Nat} {D : Nat → Nat → Bool} {x y : Nat} (h : D x y = false) : tgE E D x y = E x y := if_neg (by rw [h]; decide)
theorem tg_0 {E : Nat → Nat → Nat} {D : Nat → Nat → Bool} (h : ∀ x y, D x y = false) : tgE E D = E := by
  funext x y
  exact tg_f (h x y)
theorem tg_c {E : Nat → Nat → Nat} {D D' : Nat → Nat → Bool} (h : ∀ x y, D x y = D' x y) : tgE E D = tgE E D' := by
  rw [show D = D' from funext fun x => funext fun y => h x y]
theorem jn_tg {T : Nat → Bool} {ph : Nat → Nat} {E : Nat → Nat → Nat} {D D' : Nat → Nat → Bool} {i j : Nat} (h1 : D i j = false) (h2 : D j i = false) (e : E i j = 0 ∨ E i j = 2) (es : E j i = E i j) (hD : ∀ x y, D' x y = (D x y || decide ((x = i ∧ y = j) ∨ (x = j ∧ y = i)))) : jnW (T, ph, tgE E D) i j 2 = (T, ph, tgE E D') := by
  have v : (T, ph, tgE E D).2.2 i j = E i j := tg_f h1
  have st : stE (tgE E D) i j (if E i j = 0 then 2 else 0) = tgE E D' := by
    funext x y
    unfold stE
    by_cases c : (x = i ∧ y = j) ∨ (x = j ∧ y = i)
    · have d' : D' x y = true := by rw [hD, decide_eq_true c, Bool.or_true]
      rw [if_pos c, tg_t d']
      rcases c with ⟨rfl, rfl⟩ | ⟨rfl, rfl⟩
      · rfl
      · rw [es]
    · have d' : D' x y = D x y := by rw [hD, decide_eq_false c, Bool.or_false]
      rw [if_neg c]
      unfold tgE
      rw [d']
  rcases e with e | e
  · rw [jn_0 (by rw [v]; exact e)]
    rw [if_pos e] at st
    show (T, ph, stE (tgE E D) i j 2) = _
    rw [st]
  · rw [jn_e (by rw [v, e]; decide) (by rw [v]; exact e), if_neg (by decide)]
    rw [if_neg (by omega)] at st
    show (T, ph, stE (tgE E D) i j 0) = _
    rw [st]
theorem ja_tg {T : Nat → Bool} {ph : Nat → Nat} {E : Nat → Nat → Nat} {D : Nat → Nat → Bool} {S : Nat → Bool} {i : Nat} (hs : ∀ j, S j = true → j ≠ i ∧ D i j = false ∧ D j i = false ∧ (E i j = 0 ∨ E i j = 2) ∧ E j i = E i j) : ∀ n, jaW (T, ph, tgE E D) i S n = (T, ph, tgE E (fun x y => D x y || decide ((x = i ∧ y < n ∧ S y = true) ∨ (y = i ∧ x < n ∧ S x = true))))
  | 0 => by
    show (T, ph, tgE E D) = _
    rw [tg_c (D := D) (D' := fun x y => D x y || decide ((x = i ∧ y < 0 ∧ S y = true) ∨ (y = i ∧ x < 0 ∧ S x = true))) fun x y => by
      try dsimp only
      rw [decide_eq_false (by omega), Bool.or_false]]
  | n + 1 => by
    have ih := ja_tg (T := T) (ph := ph) hs n
    by_cases h : S n = true
    · obtain ⟨k1, k2, k3, k4, k5⟩ := hs n h
      rw [ja_p h, ih]
      refine jn_tg ?_ ?_ k4 k5 fun x y => ?_
      · try dsimp only
        rw [k2, decide_eq_false (by omega)]
        rfl
      · try dsimp only
        rw [k3, decide_eq_false (by omega)]
        rfl
      · try dsimp only
        rw [Bool.or_assoc, ← Bool.decide_or]
        congr 1
        rw [decide_eq_decide]
        constructor
        · rintro (⟨rfl, a1, a2⟩ | ⟨rfl, a1, a2⟩)
          · by_cases e : y = n
            · exact Or.inr (Or.inl ⟨rfl, e⟩)
            · exact Or.inl (Or.inl ⟨rfl, by omega, a2⟩)
          · by_cases e : x = n
            · exact Or.inr (Or.inr ⟨e, rfl⟩)
            · exact Or.inl (Or.inr ⟨rfl, by omega, a2⟩)
        · rintro ((⟨rfl, a1, a2⟩ | ⟨rfl, a1, a2⟩) | (⟨rfl, rfl⟩ | ⟨rfl, rfl⟩))
          · exact Or.inl ⟨rfl, by omega, a2⟩
          · exact Or.inr ⟨rfl, by omega, a2⟩
          · exact Or.inl ⟨rfl, by omega, h⟩
          · exact Or.inr ⟨rfl, by omega, h⟩
    · rw [ja_n h, ih]
      rw [tg_c (E := E) fun x y => ?_]
      rw [decide_eq_decide.mpr]
      constructor
      · rintro (⟨a0, a1, a2⟩ | ⟨a0, a1, a2⟩)
        · exact Or.inl ⟨a0, by omega, a2⟩
        · exact Or.inr ⟨a0, by omega, a2⟩
      · rintro (⟨a0, a1, a2⟩ | ⟨a0, a1, a2⟩)
        · refine Or.inl ⟨a0, ?_, a2⟩
          by_cases e : y = n
          · rw [e] at a2
            exact absurd a2 h
          · omega
        · refine Or.inr ⟨a0, ?_, a2⟩
          by_cases e : x = n
          · rw [e] at a2
            exact absurd a2 h
          · omega
theorem gd_tg {m inp : Nat} {T : Nat → Bool} {ph : Nat → Nat} {E : Nat → Nat → Nat} {D : Nat → Nat → Bool} (g : gdW m inp (T, ph, E)) (hs : ∀ x y, D x y = D y x) (ht : ∀ x y, D x y = true → T x = true ∧ T y = true ∧ x ≠ y) : gdW m inp (T, ph, tgE E D) := by
  obtain ⟨g1, g2, g3, g4, g5, g6, g7, g8, g9, g10, g11⟩ := g
  refine ⟨g1, g2, g3, g4, g5, g6, fun i j => ?_, fun i => ?_, fun i j => ?_, fun i j hz => ?_, g11⟩
  · show tgE E D i j = tgE E D j i
    unfold tgE
    rw [hs i j, show E i j = E j i from g7 i j]
  · show tgE E D i i = 0
    have : D i i = false := by
      cases h : D i i with
      | false => rfl
      | true => exact absurd rfl (ht i i h).2.2
    rw [tg_f this]
    exact g8 i
  · show tgE E D i j ≤ 2
    cases h : D i j with
    | false =>
      rw [tg_f h]
      exact g9 i j
    | true =>
      rw [tg_t h]
      by_cases z : E i j = 0
      · rw [if_pos z]; decide
      · rw [if_neg z]; decide
  · have hz : tgE E D i j ≠ 0 := hz
    show T i = true ∧ T j = true
    cases h : D i j with
    | false =>
      rw [tg_f h] at hz
      exact g10 i j hz
    | true => exact ⟨(ht i j h).1, (ht i j h).2.1⟩
def pvP (ph amt : Nat → Nat) (n : Nat) : Nat → Nat := fun x => if x < n then (ph x + amt x) % 8 else ph x
theorem pvP_0 {ph amt : Nat → Nat} : pvP ph amt 0 = ph := by
  funext x
  exact if_neg (by omega)
theorem pvP_s {ph amt : Nat → Nat} {n : Nat} : grw (pvP ph amt n) n (amt n) = pvP ph amt (n + 1) := by
  funext x
  unfold grw pvP
  by_cases e : x = n
  · rw [if_pos e, if_neg (show ¬ n < n by omega), if_pos (show x < n + 1 by omega), e]
  · rw [if_neg e]
    by_cases h : x < n
    · rw [if_pos h, if_pos (by omega)]
    · rw [if_neg h, if_neg (by omega)]
def amW (W : WB) (a b x : Nat) : Nat := if sdW W a b x = 1 then W.2.1 b else if sdW W a b x = 2 then W.2.1 a else if sdW W a b x = 3 then W.2.1 a + W.2.1 b + 4 else 0
def pvOK (inp : Nat) (W : WB) (a b : Nat) : Prop := edW inp W 2 a b ∧ W.2.1 a % 4 = 0 ∧ W.2.1 b % 4 = 0 ∧ fsP inp W a ∧ fsP inp W b ∧ npP W a b
def rm2 (W : WB) (a b : Nat) : WB := rmW (rmW W a) b
def pvW (W : WB) (a b m : Nat) : WB := ((rm2 W a b).1, pvP W.2.1 (amW W a b) m, tgE (rm2 W a b).2.2 (fun x y => decide (dfS (sdW W a b) x y)))
def pvV (inp m : Nat) (W : WB) (p q : Int32) (V : WB) : Prop := ∃ a b, p = nI a ∧ q = nI b ∧ pvOK inp W a b ∧ V = pvW W a b m
section PVF
variable {m inp a b : Nat} {W : WB}
theorem sd_le {x : Nat} : sdW W a b x ≤ 3 := by
  unfold sdW
  by_cases e : x = a ∨ x = b
  · rw [if_pos e]; decide
  · rw [if_neg e]
    by_cases z1 : W.2.2 x a = 0
    · rw [if_pos z1]
      by_cases z2 : W.2.2 x b = 0
      · rw [if_pos z2]; decide
      · rw [if_neg z2]; decide
    · rw [if_neg z1]
      by_cases z2 : W.2.2 x b = 0
      · rw [if_pos z2]; decide
      · rw [if_neg z2]; decide
theorem sd_nx {x : Nat} : sdW W a b x ≠ 0 ↔ nxP W x a b := by
  unfold sdW nxP
  by_cases e : x = a ∨ x = b
  · rw [if_pos e]
    constructor
    · intro z
      exact absurd rfl z
    · rintro ⟨h1, h2, _⟩
      rcases e with e | e
      · exact absurd e h1
      · exact absurd e h2
  · rw [if_neg e]
    have n1 : x ≠ a := fun z => e (Or.inl z)
    have n2 : x ≠ b := fun z => e (Or.inr z)
    by_cases z1 : W.2.2 x a = 0
    · rw [if_pos z1]
      by_cases z2 : W.2.2 x b = 0
      · rw [if_pos z2]
        exact ⟨fun z => absurd rfl z, fun z => z.2.2.elim (fun y => absurd z1 y) (fun y => absurd z2 y)⟩
      · rw [if_neg z2]
        exact ⟨fun _ => ⟨n1, n2, Or.inr z2⟩, fun _ => by decide⟩
    · rw [if_neg z1]
      exact ⟨fun _ => ⟨n1, n2, Or.inl z1⟩, fun _ => by omega⟩
theorem nx_T {x : Nat} (g : gdW m inp W) (h : nxP W x a b) : W.1 x = true := by
  rcases h.2.2 with y | y
  · exact (g.2.2.2.2.2.2.2.2.2.1 x a y).1
  · exact (g.2.2.2.2.2.2.2.2.2.1 x b y).1
theorem rm2_T {x : Nat} (h1 : x ≠ a) (h2 : x ≠ b) : (rm2 W a b).1 x = W.1 x := by
  show (if x = b then false else if x = a then false else W.1 x) = W.1 x
  rw [if_neg h2, if_neg h1]
theorem rm2_E {x y : Nat} (h1 : x ≠ a) (h2 : x ≠ b) (h3 : y ≠ a) (h4 : y ≠ b) : (rm2 W a b).2.2 x y = W.2.2 x y := by
  show (if x = b ∨ y = b then 0 else if x = a ∨ y = a then 0 else W.2.2 x y) = W.2.2 x y
  rw [if_neg (by omega), if_neg (by omega)]
/-- no PLAIN EDGE between two that are next -/
theorem nx_E {x y : Nat} (g : gdW m inp W) (hn : npP W a b) (hx : nxP W x a b) (hy : nxP W y a b) : (rm2 W a b).2.2 x y = 0 ∨ (rm2 W a b).2.2 x y = 2 := by
  rw [rm2_E hx.1 hx.2.1 hy.1 hy.2.1]
  have e2 := g.2.2.2.2.2.2.2.2.1 x y
  have n1 : W.2.2 x y ≠ 1 := by
    rcases Nat.lt_trichotomy x y with h | h | h
    · rw [g.2.2.2.2.2.2.1]
      exact hn y x h hy hx
    · rw [h, g.2.2.2.2.2.2.2.1]
      decide
    · exact hn x y h hx hy
  omega
theorem gd_2 (g : gdW m inp W) (ha : 2 * inp ≤ a) (hb : 2 * inp ≤ b) : gdW m inp (rm2 W a b) := gd_rm (gd_rm g ha) hb
end PVF
