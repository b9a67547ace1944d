/-! DIAGRAMS: what both keep; edges set, phases grown: the class -/
abbrev WB := (Nat → Bool) × (Nat → Nat) × (Nat → Nat → Nat)
def shb (b : Nat) : Int64 := (1 : Int64) <<< ((nI b).toInt64 &&& 63)
theorem shb_b {b j : Nat} (hb : b < 64) (hj : j < 64) : (shb b).toBitVec.getLsbD j = decide (j = b) := by
  have : ∀ b, b < 64 → ∀ j, j < 64 → (shb b).toBitVec.getLsbD j = decide (j = b) := by decide +kernel
  exact this b hb j hj
theorem shn_b {b j : Nat} (hb : b < 64) (hj : j < 64) : (shb b ^^^ -1).toBitVec.getLsbD j = !decide (j = b) := by
  show ((shb b).toBitVec ^^^ (-1 : Int64).toBitVec).getLsbD j = _
  rw [BitVec.getLsbD_xor]
  have e : (-1 : Int64).toBitVec.getLsbD j = true := by
    have : ∀ j, j < 64 → (-1 : Int64).toBitVec.getLsbD j = true := by decide +kernel
    exact this j hj
  rw [shb_b hb hj, e, Bool.xor_true]
/-- a bit is set or taken away -/
def opb (t : Bool) (x : Int64) (b : Nat) : Int64 := bif t then x ||| shb b else x &&& (shb b ^^^ -1)
theorem opb_b {t : Bool} {x : Int64} {b j : Nat} (hb : b < 64) (hj : j < 64) : (opb t x b).toBitVec.getLsbD j = if j = b then t else x.toBitVec.getLsbD j := by
  cases t with
  | true =>
    show (x.toBitVec ||| (shb b).toBitVec).getLsbD j = _
    rw [BitVec.getLsbD_or, shb_b hb hj]
    by_cases e : j = b
    · rw [if_pos e, decide_eq_true e, Bool.or_true]
    · rw [if_neg e, decide_eq_false e, Bool.or_false]
  | false =>
    show (x.toBitVec &&& (shb b ^^^ -1).toBitVec).getLsbD j = _
    rw [BitVec.getLsbD_and, shn_b hb hj]
    by_cases e : j = b
    · rw [if_pos e, decide_eq_true e]
      exact Bool.and_false _
    · rw [if_neg e, decide_eq_false e]
      exact Bool.and_true _
/-- a bit of two rows -/
def op2 (t : Bool) (F : Nat → Int64) (a b : Nat) : Nat → Int64 := vp_updL (vp_updL F a (opb t (F a) b)) b (opb t (vp_updL F a (opb t (F a) b) b) a)
theorem op2_b {t : Bool} {F : Nat → Int64} {a b i j : Nat} (hab : a ≠ b) (ha : a < 64) (hb : b < 64) (hj : j < 64) : (op2 t F a b i).toBitVec.getLsbD j = if (i = a ∧ j = b) ∨ (i = b ∧ j = a) then t else (F i).toBitVec.getLsbD j := by
  unfold op2
  unfold vp_updL
  by_cases e1 : i = b
  · rw [if_pos e1, if_neg fun z => hab z.symm, opb_b ha hj, e1]
    by_cases e2 : j = a
    · rw [if_pos e2, if_pos (Or.inr ⟨rfl, e2⟩)]
    · rw [if_neg e2, if_neg]
      rintro (z | z)
      · exact hab z.1.symm
      · exact e2 z.2
  · rw [if_neg e1]
    by_cases e2 : i = a
    · rw [if_pos e2, opb_b hb hj, e2]
      by_cases e3 : j = b
      · rw [if_pos e3, if_pos (Or.inl ⟨rfl, e3⟩)]
      · rw [if_neg e3, if_neg]
        rintro (z | z)
        · exact e3 z.2
        · exact hab z.1
    · rw [if_neg e2, if_neg]
      rintro (z | z)
      · exact e2 z.1
      · exact e1 z.1
/-- an EDGE is set -/
def stE (E : Nat → Nat → Nat) (a b v : Nat) : Nat → Nat → Nat := fun x y => if (x = a ∧ y = b) ∨ (x = b ∧ y = a) then v else E x y
def grw (ph : Nat → Nat) (a k : Nat) : Nat → Nat := fun x => if x = a then (ph a + k) % 8 else ph x
/-- an EDGE comes -/
def jnW (W : WB) (a b v : Nat) : WB := if W.2.2 a b = 0 then (W.1, W.2.1, stE W.2.2 a b v) else if W.2.2 a b = v then (W.1, W.2.1, stE W.2.2 a b (if v = 1 then 1 else 0)) else (W.1, grw W.2.1 (min a b) 4, stE W.2.2 a b 1)
def rmW (W : WB) (a : Nat) : WB := (fun x => if x = a then false else W.1 x, W.2.1, fun x y => if x = a ∨ y = a then 0 else W.2.2 x y)
/-- the class's DIAGRAM -/
def cwR (N : mm_M) (m inp : Nat) (W : WB) : Prop := N.1 39 6 = nI m ∧ N.1 39 7 = nI inp ∧ (∀ i, i < 64 → (N.2 39 10).toBitVec.getLsbD i = W.1 i) ∧ (∀ i, W.1 i = true → N.1 42 i = nI (W.2.1 i)) ∧ ∀ i, i < m → ∀ j, j < 64 → (N.2 40 i).toBitVec.getLsbD j = decide (W.2.2 i j = 1) ∧ (N.2 41 i).toBitVec.getLsbD j = decide (W.2.2 i j = 2)
/-- a sound DIAGRAM -/
def gdW (m inp : Nat) (W : WB) : Prop := m ≤ 60 ∧ 2 * inp ≤ m ∧ inp ≤ 4 ∧ 1 ≤ inp ∧ (∀ i, W.1 i = true → i < m) ∧ (∀ i, i < 2 * inp → W.1 i = true) ∧ (∀ i j, W.2.2 i j = W.2.2 j i) ∧ (∀ i, W.2.2 i i = 0) ∧ (∀ i j, W.2.2 i j ≤ 2) ∧ (∀ i j, W.2.2 i j ≠ 0 → W.1 i = true ∧ W.1 j = true) ∧ ∀ i, W.1 i = true → W.2.1 i < 8
/-- what a step of the class may change in it -/
def cwF (N N' : mm_M) : Prop := (∀ k, k ≠ 39 → k ≠ 42 → N'.1 k = N.1 k) ∧ (∀ k, k ≠ 39 → k ≠ 40 → k ≠ 41 → N'.2 k = N.2 k) ∧ (∀ j, j ≠ 9 → N'.1 39 j = N.1 39 j) ∧ ∀ j, j ≠ 10 → N'.2 39 j = N.2 39 j
theorem cwF_r (N : mm_M) : cwF N N := ⟨fun _ _ _ => rfl, fun _ _ _ _ => rfl, fun _ _ => rfl, fun _ _ => rfl⟩
theorem cwF_t {M N K : mm_M} (h : cwF M N) (h' : cwF N K) : cwF M K := ⟨fun k a b => (h'.1 k a b).trans (h.1 k a b), fun k a b c => (h'.2.1 k a b c).trans (h.2.1 k a b c), fun j a => (h'.2.2.1 j a).trans (h.2.2.1 j a), fun j a => (h'.2.2.2 j a).trans (h.2.2.2 j a)⟩
section WEB
variable {d m inp : Nat} {N : mm_M} {W : WB}
set_option maxRecDepth 100000 in
theorem ct_ekC {i j : Nat} (h : cwR N m inp W) (m60 : m ≤ 60) (e2 : W.2.2 i j ≤ 2) (hi : i < m) (hj : j < 60) : am_M (d + 1) false nm_X10_edgeKind [aR 39, aI (nI i), aI (nI j)] N (am_q1 (aI (nI (W.2.2 i j))) N) := by
  obtain ⟨h1, h2, h3, h4, h5⟩ := h
  have ⟨g1, g2⟩ := h5 i hi j (by omega)
  have ka := lb_us (x := N.2 40 i) (i := j) (by omega)
  have kb := lb_us (x := N.2 41 i) (i := j) (by omega)
  rw [g1] at ka
  rw [g2] at kb
  refine ⟨rfl, rfl, rfl, fun X hX => am_run hX 40 _ _ _ _ ?_⟩
  conv => whnf
  refine ⟨vp_in_nI (by show i < 60; omega) (by decide), ?_⟩
  conv => whnf
  rw [nI_clamp (n := i) (by omega)]
  refine ⟨fun c => ?_, fun c => ?_⟩
  · have n1 : W.2.2 i j ≠ 1 := by simpa using ka.mp c
    conv => whnf
    refine ⟨vp_in_nI (by show i < 60; omega) (by decide), ?_⟩
    conv => whnf
    rw [nI_clamp (n := i) (by omega)]
    refine ⟨fun c => ?_, fun c => ?_⟩
    · have n2 : W.2.2 i j ≠ 2 := by simpa using kb.mp c
      conv => whnf
      rw [show W.2.2 i j = 0 by omega]
      exact ⟨trivial, rfl, rfl⟩
    · have y : W.2.2 i j = 2 := by
        apply Decidable.byContradiction
        intro q
        exact c (kb.mpr (by simpa using q))
      conv => whnf
      rw [y]
      exact ⟨trivial, rfl, rfl⟩
  · have y : W.2.2 i j = 1 := by
      apply Decidable.byContradiction
      intro q
      exact c (ka.mpr (by simpa using q))
    conv => whnf
    rw [y]
    exact ⟨trivial, rfl, rfl⟩
/-- both rows of bits changed -/
def seM (N : mm_M) (a b v : Nat) : mm_M := mm_l (mm_l N 40 (op2 (decide (v = 1)) (N.2 40) a b)) 41 (op2 (decide (v = 2)) (N.2 41) a b)
theorem ml_two {M : mm_M} {k : Nat} {f f' : Nat → Int64} : mm_l (mm_l M k f) k f' = mm_l M k f' := by
  refine Prod.ext rfl (funext fun j => ?_)
  by_cases h : j = k
  · simp [mm_l, h]
  · simp [mm_l, h]
set_option maxRecDepth 100000 in
theorem ct_seC0 {a b v : Nat} (ha : a < 60) (hb : b < 60) (hv : v ≤ 2) : am_M (d + 1) false nm_X10_setEdge [aR 39, aI (nI a), aI (nI b), aI (nI v)] N (am_q0 (seM N a b v)) := by
  have hA : vp_in (nI a) 60 := vp_in_nI ha (by decide)
  have hB : vp_in (nI b) 60 := vp_in_nI hb (by decide)
  obtain rfl | rfl | rfl : v = 0 ∨ v = 1 ∨ v = 2 := by omega
  all_goals (
    refine ⟨rfl, rfl, rfl, fun X hX => am_run hX 120 _ _ _ _ ?_⟩
    conv => whnf
    first
    | refine ⟨fun c => absurd rfl c, fun _ => ?_⟩
    | refine ⟨fun _ => ?_, fun c => absurd (by decide) c⟩
    conv => whnf
    refine ⟨hA, ?_⟩
    conv => whnf
    refine ⟨hA, ?_⟩
    conv => whnf
    rw [nI_clamp (n := a) (by omega)]
    first
    | refine ⟨fun c => absurd rfl c, fun _ => ?_⟩
    | refine ⟨fun _ => ?_, fun c => absurd (by decide) c⟩
    conv => whnf
    refine ⟨hB, ?_⟩
    conv => whnf
    refine ⟨hB, ?_⟩
    conv => whnf
    rw [nI_clamp (n := b) (by omega), ml_two]
    first
    | refine ⟨fun c => absurd rfl c, fun _ => ?_⟩
    | refine ⟨fun _ => ?_, fun c => absurd (by decide) c⟩
    conv => whnf
    refine ⟨hA, ?_⟩
    conv => whnf
    refine ⟨hA, ?_⟩
    conv => whnf
    rw [nI_clamp (n := a) (by omega)]
    first
    | refine ⟨fun c => absurd rfl c, fun _ => ?_⟩
    | refine ⟨fun _ => ?_, fun c => absurd (by decide) c⟩
    conv => whnf
    refine ⟨hB, ?_⟩
    conv => whnf
    refine ⟨hB, ?_⟩
    conv => whnf
    rw [nI_clamp (n := b) (by omega), ml_two]
    exact ⟨trivial, rfl, rfl⟩)
theorem cwR_se {a b v : Nat} (h : cwR N m inp W) (hab : a ≠ b) (ha : a < 60) (hb : b < 60) : cwR (seM N a b v) m inp (W.1, W.2.1, stE W.2.2 a b v) := by
  obtain ⟨h1, h2, h3, h4, h5⟩ := h
  refine ⟨h1, h2, h3, h4, fun i hi j hj => ?_⟩
  obtain ⟨g1, g2⟩ := h5 i hi j hj
  show (op2 (decide (v = 1)) (N.2 40) a b i).toBitVec.getLsbD j = decide (stE W.2.2 a b v i j = 1) ∧ (op2 (decide (v = 2)) (N.2 41) a b i).toBitVec.getLsbD j = decide (stE W.2.2 a b v i j = 2)
  rw [op2_b hab (by omega) (by omega) hj, op2_b hab (by omega) (by omega) hj, g1, g2]
  unfold stE
  by_cases e : (i = a ∧ j = b) ∨ (i = b ∧ j = a)
  · rw [if_pos e, if_pos e, if_pos e]
    exact ⟨rfl, rfl⟩
  · rw [if_neg e, if_neg e, if_neg e]
    exact ⟨rfl, rfl⟩
theorem cwF_se {a b v : Nat} : cwF N (seM N a b v) := by
  refine ⟨fun _ _ _ => rfl, fun k a b c => ?_, fun _ _ => rfl, fun _ _ => rfl⟩
  simp [seM, mm_l, b, c]
def grM (N : mm_M) (a k : Nat) : mm_M := mm_i N 42 (upd (N.1 42) a ((N.1 42 a + nI k) &&& 7))
set_option maxRecDepth 100000 in
theorem ct_grC0 {a k : Nat} (ha : a < 60) : am_M (d + 1) false nm_X10_grow [aR 39, aI (nI a), aI (nI k)] N (am_q0 (grM N a k)) := by
  have hA : vp_in (nI a) 60 := vp_in_nI ha (by decide)
  refine ⟨rfl, rfl, rfl, fun X hX => am_run hX 20 _ _ _ _ ?_⟩
  conv => whnf
  refine ⟨hA, ?_⟩
  conv => whnf
  refine ⟨hA, ?_⟩
  conv => whnf
  rw [nI_clamp (n := a) (by omega)]
  exact ⟨trivial, rfl, rfl⟩
theorem cwR_gr {a k : Nat} (h : cwR N m inp W) : cwR (grM N a k) m inp (W.1, grw W.2.1 a k, W.2.2) := by
  obtain ⟨h1, h2, h3, h4, h5⟩ := h
  refine ⟨h1, h2, h3, fun i hi => ?_, h5⟩
  show upd (N.1 42) a ((N.1 42 a + nI k) &&& 7) i = nI (grw W.2.1 a k i)
  unfold upd grw
  by_cases e : i = a
  · rw [if_pos e, if_pos e, ← e, h4 i hi, nI_add, nI_m7]
  · rw [if_neg e, if_neg e]
    exact h4 i hi
theorem cwF_gr {a k : Nat} : cwF N (grM N a k) := by
  refine ⟨fun j _ b => ?_, fun _ _ _ _ => rfl, fun _ _ => rfl, fun _ _ => rfl⟩
  simp [grM, mm_i, b]
end WEB
