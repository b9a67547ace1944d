/-! DIAGRAMS: drawing one, as a function -/
/-- how many SPIDERS, the DIAGRAM, the last one on each WIRE, which WIRES are turned -/
abbrev DR := Nat × WB × (Nat → Nat) × Nat
def kc (k w : Nat) : Nat := k &&& (15 - 2 ^ w)
def ks (k a b : Nat) : Nat := k ^^^ ((k / 2 ^ a + k / 2 ^ b) % 2 * 2 ^ a ||| (k / 2 ^ a + k / 2 ^ b) % 2 * 2 ^ b)
def kb (k w : Nat) : Nat := k / 2 ^ w % 2
theorem kx_b {k w x : Nat} (hk : k < 16) (hw : w < 4) (hx : x < 4) : kb (k ^^^ 2 ^ w) x = if x = w then 1 - kb k w else kb k x := by
  have : ∀ k, k < 16 → ∀ w, w < 4 → ∀ x, x < 4 → kb (k ^^^ 2 ^ w) x = if x = w then 1 - kb k w else kb k x := by decide +kernel
  exact this k hk w hw x hx
theorem kc_b {k w x : Nat} (hk : k < 16) (hw : w < 4) (hx : x < 4) : kb (kc k w) x = if x = w then 0 else kb k x := by
  have : ∀ k, k < 16 → ∀ w, w < 4 → ∀ x, x < 4 → kb (kc k w) x = if x = w then 0 else kb k x := by decide +kernel
  exact this k hk w hw x hx
theorem ks_b {k a b x : Nat} (hk : k < 16) (ha : a < 4) (hb : b < 4) (hx : x < 4) : kb (ks k a b) x = if x = b then kb k a else if x = a then kb k b else kb k x := by
  have : ∀ k, k < 16 → ∀ a, a < 4 → ∀ b, b < 4 → ∀ x, x < 4 → kb (ks k a b) x = if x = b then kb k a else if x = a then kb k b else kb k x := by decide +kernel
  exact this k hk a ha b hb x hx
theorem kx_l {k w : Nat} (hk : k < 16) (hw : w < 4) : k ^^^ 2 ^ w < 16 := by
  have : ∀ k, k < 16 → ∀ w, w < 4 → k ^^^ 2 ^ w < 16 := by decide +kernel
  exact this k hk w hw
theorem kc_l {k w : Nat} (hk : k < 16) : kc k w < 16 := Nat.lt_of_le_of_lt Nat.and_le_left hk
theorem ks_l {k a b : Nat} (hk : k < 16) (ha : a < 4) (hb : b < 4) : ks k a b < 16 := by
  have : ∀ k, k < 16 → ∀ a, a < 4 → ∀ b, b < 4 → ks k a b < 16 := by decide +kernel
  exact this k hk a ha b hb
theorem kb_2 {k w : Nat} : kb k w < 2 := Nat.mod_lt _ (by decide)
/-- a SPIDER comes on a WIRE -/
def adW (V : WB) (m p : Nat) : WB := (fun x => if x = m then true else V.1 x, fun x => if x = m then p else V.2.1 x, V.2.2)
def pu (σ : DR) (w p : Nat) : DR := (σ.1 + 1, ((adW σ.2.1 σ.1 p).1, (adW σ.2.1 σ.1 p).2.1, stE σ.2.1.2.2 σ.1 (σ.2.2.1 w) (kb σ.2.2.2 w + 1)), fun x => if x = w then σ.1 else σ.2.2.1 x, kc σ.2.2.2 w)
def tws (σ : DR) (w : Nat) : DR := (σ.1, σ.2.1, σ.2.2.1, σ.2.2.2 ^^^ 2 ^ w)
def swD (σ : DR) (a b : Nat) : DR := (σ.1, σ.2.1, fun x => if x = b then σ.2.2.1 a else if x = a then σ.2.2.1 b else σ.2.2.1 x, ks σ.2.2.2 a b)
/-- a TURNED EDGE between the last two -/
def lnk (σ : DR) (a b : Nat) : DR := (σ.1, (σ.2.1.1, σ.2.1.2.1, stE σ.2.1.2.2 (σ.2.2.1 a) (σ.2.2.1 b) 2), σ.2.2.1, σ.2.2.2)
def ctl2 (σ : DR) (c t : Nat) : DR := lnk (pu (pu σ c 0) t 0) c t
/-- a sound drawing -/
def drI (inp : Nat) (σ : DR) : Prop := gdW σ.1 inp σ.2.1 ∧ oD inp σ.2.1 ∧ (∀ w, w < inp → σ.2.1.1 (σ.2.2.1 w) = true ∧ (σ.2.2.1 w < inp ∨ 2 * inp ≤ σ.2.2.1 w) ∧ (σ.2.2.1 w < inp → ∀ x, σ.2.1.2.2 (σ.2.2.1 w) x = 0)) ∧ (∀ w v, w < inp → v < inp → σ.2.2.1 w = σ.2.2.1 v → w = v) ∧ (∀ i, inp ≤ i → i < 2 * inp → ∀ x, σ.2.1.2.2 i x = 0) ∧ σ.2.2.2 < 16
section DRW
variable {inp : Nat} {σ : DR}
theorem gd_ad {m p : Nat} {V : WB} (g : gdW m inp V) (hm : m < 60) (hp : p < 8) : gdW (m + 1) inp (adW V m p) := by
  obtain ⟨g1, g2, g3, g4, g5, g6, g7, g8, g9, g10, g11⟩ := g
  refine ⟨by omega, by omega, g3, g4, fun i hi => ?_, fun i hi => ?_, g7, g8, g9, fun i j h => ?_, fun i hi => ?_⟩
  · have hi : (if i = m then true else V.1 i) = true := hi
    by_cases e : i = m
    · omega
    · rw [if_neg e] at hi
      have := g5 i hi
      omega
  · show (if i = m then true else V.1 i) = true
    rw [if_neg (by omega)]
    exact g6 i hi
  · obtain ⟨a, b⟩ := g10 i j h
    refine ⟨?_, ?_⟩
    · show (if i = m then true else V.1 i) = true
      rw [a, ite_self]
    · show (if j = m then true else V.1 j) = true
      rw [b, ite_self]
  · have hi : (if i = m then true else V.1 i) = true := hi
    show (if i = m then p else V.2.1 i) < 8
    by_cases e : i = m
    · rw [if_pos e]
      exact hp
    · rw [if_neg e] at hi ⊢
      exact g11 i hi
theorem gd_st {m a b v : Nat} {V : WB} (g : gdW m inp V) (ha : V.1 a = true) (hb : V.1 b = true) (hab : a ≠ b) (hv : v = 1 ∨ v = 2) (h0 : V.2.2 a b = 0) : gdW m inp (V.1, V.2.1, stE V.2.2 a b v) := by
  have := gd_jn g ha hb hab hv
  rw [jn_0 h0] at this
  exact this
theorem dr_z (h : drI inp σ) : ∀ x, σ.2.1.2.2 σ.1 x = 0 := fun x => by
  apply Decidable.byContradiction
  intro hc
  have := h.1.2.2.2.2.1 _ (h.1.2.2.2.2.2.2.2.2.2.1 _ _ hc).1
  omega
theorem dr_l (h : drI inp σ) {w : Nat} (hw : w < inp) : σ.2.2.1 w < σ.1 := h.1.2.2.2.2.1 _ (h.2.2.1 w hw).1
theorem dr_pu {w p : Nat} (h : drI inp σ) (hm : σ.1 < 60) (hw : w < inp) (hp : p < 8) : drI inp (pu σ w p) := by
  have z := dr_z h
  have lw := dr_l h hw
  obtain ⟨g, ho, h3, h4, h5, h6⟩ := h
  obtain ⟨t1, t2, t3⟩ := h3 w hw
  have i2 := g.2.1
  have v12 : kb σ.2.2.2 w + 1 = 1 ∨ kb σ.2.2.2 w + 1 = 2 := by
    have := kb_2 (k := σ.2.2.2) (w := w)
    omega
  have tm : (adW σ.2.1 σ.1 p).1 σ.1 = true := if_pos rfl
  have tl : (adW σ.2.1 σ.1 p).1 (σ.2.2.1 w) = true := by
    show (if σ.2.2.1 w = σ.1 then true else _) = true
    rw [if_neg (by omega)]
    exact t1
  refine ⟨gd_st (gd_ad g hm hp) tm tl (by omega) v12 (z _), fun i hi => ⟨?_, fun x y hx hy => ?_⟩, fun v hv => ⟨?_, ?_, fun hl x => ?_⟩, fun v u hv hu e => ?_, fun i a1 a2 x => ?_, kc_l h6⟩
  · show (if i = σ.1 then p else _) = 0
    rw [if_neg (by omega)]
    exact (ho i hi).1
  · have hx : (if (i = σ.1 ∧ x = σ.2.2.1 w) ∨ (i = σ.2.2.1 w ∧ x = σ.1) then _ else σ.2.1.2.2 i x) ≠ 0 := hx
    have hy : (if (i = σ.1 ∧ y = σ.2.2.1 w) ∨ (i = σ.2.2.1 w ∧ y = σ.1) then _ else σ.2.1.2.2 i y) ≠ 0 := hy
    by_cases e : i = σ.2.2.1 w
    · have li : σ.2.2.1 w < inp := by omega
      have k : ∀ x, (if (i = σ.1 ∧ x = σ.2.2.1 w) ∨ (i = σ.2.2.1 w ∧ x = σ.1) then kb σ.2.2.2 w + 1 else σ.2.1.2.2 i x) ≠ 0 → x = σ.1 := fun x hx => by
        apply Decidable.byContradiction
        intro hc
        rw [if_neg (by omega), e, t3 li x] at hx
        exact hx rfl
      rw [k x hx, k y hy]
    · rw [if_neg (by omega)] at hx hy
      exact (ho i hi).2 x y hx hy
  · show (adW σ.2.1 σ.1 p).1 (if v = w then σ.1 else σ.2.2.1 v) = true
    by_cases e : v = w
    · rw [if_pos e]
      exact tm
    · rw [if_neg e]
      show (if σ.2.2.1 v = σ.1 then true else _) = true
      rw [(h3 v hv).1, ite_self]
  · show (if v = w then σ.1 else σ.2.2.1 v) < inp ∨ 2 * inp ≤ (if v = w then σ.1 else σ.2.2.1 v)
    by_cases e : v = w
    · rw [if_pos e]
      exact Or.inr i2
    · rw [if_neg e]
      exact (h3 v hv).2.1
  · have hl : (if v = w then σ.1 else σ.2.2.1 v) < inp := hl
    show stE σ.2.1.2.2 σ.1 (σ.2.2.1 w) _ (if v = w then σ.1 else σ.2.2.1 v) x = 0
    by_cases e : v = w
    · rw [if_pos e] at hl
      omega
    · rw [if_neg e] at hl ⊢
      unfold stE
      have ne : σ.2.2.1 v ≠ σ.2.2.1 w := fun q => e (h4 v w hv hw q)
      rw [if_neg (by omega)]
      exact (h3 v hv).2.2 hl x
  · have e : (if v = w then σ.1 else σ.2.2.1 v) = if u = w then σ.1 else σ.2.2.1 u := e
    have lv := g.2.2.2.2.1 _ (h3 v hv).1
    have lu := g.2.2.2.2.1 _ (h3 u hu).1
    by_cases e1 : v = w
    · by_cases e2 : u = w
      · omega
      · rw [if_pos e1, if_neg e2] at e
        omega
    · by_cases e2 : u = w
      · rw [if_neg e1, if_pos e2] at e
        omega
      · rw [if_neg e1, if_neg e2] at e
        exact h4 v u hv hu e
  · show stE σ.2.1.2.2 σ.1 (σ.2.2.1 w) _ i x = 0
    unfold stE
    rw [if_neg (by omega)]
    exact h5 i a1 a2 x
theorem dr_tw {w : Nat} (h : drI inp σ) (hw : w < inp) : drI inp (tws σ w) := by
  obtain ⟨g, ho, h3, h4, h5, h6⟩ := h
  exact ⟨g, ho, h3, h4, h5, kx_l h6 (by have := g.2.2.1; omega)⟩
theorem dr_sw {a b : Nat} (h : drI inp σ) (ha : a < inp) (hb : b < inp) : drI inp (swD σ a b) := by
  obtain ⟨g, ho, h3, h4, h5, h6⟩ := h
  have i4 := g.2.2.1
  refine ⟨g, ho, fun w hw => ?_, fun v u hv hu e => ?_, h5, ks_l h6 (by omega) (by omega)⟩
  · show σ.2.1.1 (if w = b then σ.2.2.1 a else if w = a then σ.2.2.1 b else σ.2.2.1 w) = true ∧ _
    by_cases e1 : w = b
    · have e : (swD σ a b).2.2.1 w = σ.2.2.1 a := if_pos e1
      rw [e, if_pos e1]
      exact h3 a ha
    · by_cases e2 : w = a
      · have e : (swD σ a b).2.2.1 w = σ.2.2.1 b := by
          show (if w = b then _ else if w = a then _ else _) = _
          rw [if_neg e1, if_pos e2]
        rw [e, if_neg e1, if_pos e2]
        exact h3 b hb
      · have e : (swD σ a b).2.2.1 w = σ.2.2.1 w := by
          show (if w = b then _ else if w = a then _ else _) = _
          rw [if_neg e1, if_neg e2]
        rw [e, if_neg e1, if_neg e2]
        exact h3 w hw
  · have key : ∀ w, w < inp → ∃ y, y < inp ∧ (swD σ a b).2.2.1 w = σ.2.2.1 y ∧ y = if w = b then a else if w = a then b else w := fun w hw => by
      by_cases e1 : w = b
      · exact ⟨a, ha, if_pos e1, (if_pos e1).symm⟩
      · by_cases e2 : w = a
        · refine ⟨b, hb, ?_, ?_⟩
          · show (if w = b then _ else if w = a then _ else _) = _
            rw [if_neg e1, if_pos e2]
          · rw [if_neg e1, if_pos e2]
        · refine ⟨w, hw, ?_, ?_⟩
          · show (if w = b then _ else if w = a then _ else _) = _
            rw [if_neg e1, if_neg e2]
          · rw [if_neg e1, if_neg e2]
    obtain ⟨y, y1, y2, y3⟩ := key v hv
    obtain ⟨z, z1, z2, z3⟩ := key u hu
    rw [y2, z2] at e
    have e := h4 y z y1 z1 e
    rw [y3, z3] at e
    by_cases c1 : v = b
    · by_cases c2 : u = b
      · omega
      · rw [if_pos c1, if_neg c2] at e
        by_cases c3 : u = a
        · rw [if_pos c3] at e
          omega
        · rw [if_neg c3] at e
          omega
    · rw [if_neg c1] at e
      by_cases c2 : u = b
      · rw [if_pos c2] at e
        by_cases c3 : v = a
        · rw [if_pos c3] at e
          omega
        · rw [if_neg c3] at e
          omega
      · rw [if_neg c2] at e
        by_cases c3 : v = a
        · rw [if_pos c3] at e
          by_cases c4 : u = a
          · omega
          · rw [if_neg c4] at e
            omega
        · rw [if_neg c3] at e
          by_cases c4 : u = a
          · rw [if_pos c4] at e
            omega
          · rw [if_neg c4] at e
            exact e
theorem dr_ln {a b : Nat} (h : drI inp σ) (ha : a < inp) (hb : b < inp) (hab : a ≠ b) (ga : 2 * inp ≤ σ.2.2.1 a) (gb : 2 * inp ≤ σ.2.2.1 b) (h0 : σ.2.1.2.2 (σ.2.2.1 a) (σ.2.2.1 b) = 0) : drI inp (lnk σ a b) := by
  obtain ⟨g, ho, h3, h4, h5, h6⟩ := h
  have ne : σ.2.2.1 a ≠ σ.2.2.1 b := fun e => hab (h4 a b ha hb e)
  have st : ∀ i x, i < 2 * inp → stE σ.2.1.2.2 (σ.2.2.1 a) (σ.2.2.1 b) 2 i x = σ.2.1.2.2 i x := fun i x hi => if_neg (by omega)
  refine ⟨gd_st g (h3 a ha).1 (h3 b hb).1 ne (Or.inr rfl) h0, fun i hi => ⟨(ho i hi).1, fun x y hx hy => ?_⟩, fun w hw => ⟨(h3 w hw).1, (h3 w hw).2.1, fun hl x => ?_⟩, h4, fun i a1 a2 x => ?_, h6⟩
  · have hx : stE σ.2.1.2.2 (σ.2.2.1 a) (σ.2.2.1 b) 2 i x ≠ 0 := hx
    have hy : stE σ.2.1.2.2 (σ.2.2.1 a) (σ.2.2.1 b) 2 i y ≠ 0 := hy
    rw [st i _ hi] at hx hy
    exact (ho i hi).2 x y hx hy
  · show stE σ.2.1.2.2 (σ.2.2.1 a) (σ.2.2.1 b) 2 (σ.2.2.1 w) x = 0
    have hl : σ.2.2.1 w < inp := hl
    rw [st _ _ (by omega)]
    exact (h3 w hw).2.2 hl x
  · show stE σ.2.1.2.2 (σ.2.2.1 a) (σ.2.2.1 b) 2 i x = 0
    rw [st _ _ a2]
    exact h5 i a1 a2 x
theorem pu2_0 {c t : Nat} (h : drI inp σ) (hc : c < inp) (ht : t < inp) (hct : c ≠ t) : (pu (pu σ c 0) t 0).2.2.1 c = σ.1 ∧ (pu (pu σ c 0) t 0).2.2.1 t = σ.1 + 1 ∧ (pu (pu σ c 0) t 0).2.1.2.2 σ.1 (σ.1 + 1) = 0 := by
  have lc := dr_l h hc
  have lt := dr_l h ht
  refine ⟨?_, if_pos rfl, ?_⟩
  · show (if c = t then _ else if c = c then σ.1 else _) = σ.1
    rw [if_neg hct, if_pos rfl]
  · have e : (pu σ c 0).2.2.1 t = σ.2.2.1 t := if_neg fun z => hct z.symm
    show stE (stE σ.2.1.2.2 σ.1 (σ.2.2.1 c) _) (σ.1 + 1) ((pu σ c 0).2.2.1 t) _ σ.1 (σ.1 + 1) = 0
    rw [e]
    unfold stE
    rw [if_neg (by omega), if_neg (by omega)]
    exact dr_z h _
theorem dr_ct {c t : Nat} (h : drI inp σ) (hm : σ.1 + 1 < 60) (hc : c < inp) (ht : t < inp) (hct : c ≠ t) : drI inp (ctl2 σ c t) := by
  obtain ⟨e1, e2, e3⟩ := pu2_0 h hc ht hct
  have i2 := h.1.2.1
  refine dr_ln (dr_pu (dr_pu h (by omega) hc (by decide)) hm ht (by decide)) hc ht hct ?_ ?_ ?_
  · rw [e1]
    exact i2
  · rw [e2]
    omega
  · rw [e1, e2]
    exact e3
end DRW
