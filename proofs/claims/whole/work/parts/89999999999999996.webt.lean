/-! DIAGRAMS: what stays sound; isThere, isInner; the reference's edges -/
theorem gd_jn {m inp a b v : Nat} {W : WB} (g : gdW m inp W) (ha : W.1 a = true) (hb : W.1 b = true) (hab : a ≠ b) (hv : v = 1 ∨ v = 2) : gdW m inp (jnW W a b v) := by
  obtain ⟨g1, g2, g3, g4, g5, g6, g7, g8, g9, g10, g11⟩ := g
  have st : ∀ u, u ≤ 2 → ∀ ph : Nat → Nat, (∀ i, W.1 i = true → ph i < 8) → gdW m inp (W.1, ph, stE W.2.2 a b u) := fun u hu ph hp => by
    refine ⟨g1, g2, g3, g4, g5, g6, fun i j => ?_, fun i => ?_, fun i j => ?_, fun i j hz => ?_, hp⟩
    · show stE W.2.2 a b u i j = stE W.2.2 a b u j i
      unfold stE
      by_cases e : (i = a ∧ j = b) ∨ (i = b ∧ j = a)
      · rw [if_pos e, if_pos (by omega)]
      · rw [if_neg e, if_neg (by omega)]
        exact g7 i j
    · show stE W.2.2 a b u i i = 0
      unfold stE
      rw [if_neg (by omega)]
      exact g8 i
    · show stE W.2.2 a b u i j ≤ 2
      unfold stE
      by_cases e : (i = a ∧ j = b) ∨ (i = b ∧ j = a)
      · rw [if_pos e]
        exact hu
      · rw [if_neg e]
        exact g9 i j
    · have hz : stE W.2.2 a b u i j ≠ 0 := hz
      unfold stE at hz
      by_cases e : (i = a ∧ j = b) ∨ (i = b ∧ j = a)
      · rcases e with ⟨rfl, rfl⟩ | ⟨rfl, rfl⟩
        · exact ⟨ha, hb⟩
        · exact ⟨hb, ha⟩
      · rw [if_neg e] at hz
        exact g10 i j hz
  unfold jnW
  by_cases h0 : W.2.2 a b = 0
  · rw [if_pos h0]
    exact st v (by omega) _ g11
  · rw [if_neg h0]
    by_cases h1 : W.2.2 a b = v
    · rw [if_pos h1]
      exact st _ (by by_cases e : v = 1 <;> simp [e]) _ g11
    · rw [if_neg h1]
      refine st 1 (by decide) _ fun i hi => ?_
      unfold grw
      by_cases e : i = min a b
      · rw [if_pos e]
        exact Nat.mod_lt _ (by decide)
      · rw [if_neg e]
        exact g11 i hi
theorem gd_gr {m inp a k : Nat} {W : WB} (g : gdW m inp W) : gdW m inp (W.1, grw W.2.1 a k, W.2.2) := by
  obtain ⟨g1, g2, g3, g4, g5, g6, g7, g8, g9, g10, g11⟩ := g
  refine ⟨g1, g2, g3, g4, g5, g6, g7, g8, g9, g10, fun i hi => ?_⟩
  show grw W.2.1 a k i < 8
  unfold grw
  by_cases e : i = a
  · rw [if_pos e]
    exact Nat.mod_lt _ (by decide)
  · rw [if_neg e]
    exact g11 i hi
theorem gd_rm {m inp a : Nat} {W : WB} (g : gdW m inp W) (ha : 2 * inp ≤ a) : gdW m inp (rmW W a) := by
  obtain ⟨g1, g2, g3, g4, g5, g6, g7, g8, g9, g10, g11⟩ := g
  have tt : ∀ i, (if i = a then false else W.1 i) = true → i ≠ a ∧ W.1 i = true := fun i h => by
    by_cases e : i = a
    · rw [if_pos e] at h
      exact absurd h (by decide)
    · rw [if_neg e] at h
      exact ⟨e, h⟩
  refine ⟨g1, g2, g3, g4, fun i hi => g5 i (tt i hi).2, fun i hi => ?_, fun i j => ?_, fun i => ?_, fun i j => ?_, fun i j hz => ?_, fun i hi => g11 i (tt i hi).2⟩
  · show (if i = a then false else W.1 i) = true
    rw [if_neg (by omega)]
    exact g6 i hi
  · show (if i = a ∨ j = a then 0 else W.2.2 i j) = if j = a ∨ i = a then 0 else W.2.2 j i
    by_cases e : i = a ∨ j = a
    · rw [if_pos e, if_pos (by omega)]
    · rw [if_neg e, if_neg (by omega)]
      exact g7 i j
  · show (if i = a ∨ i = a then 0 else W.2.2 i i) = 0
    rw [g8, ite_self]
  · show (if i = a ∨ j = a then 0 else W.2.2 i j) ≤ 2
    by_cases e : i = a ∨ j = a
    · rw [if_pos e]
      decide
    · rw [if_neg e]
      exact g9 i j
  · have hz : (if i = a ∨ j = a then 0 else W.2.2 i j) ≠ 0 := hz
    by_cases e : i = a ∨ j = a
    · rw [if_pos e] at hz
      exact absurd rfl hz
    · rw [if_neg e] at hz
      obtain ⟨t1, t2⟩ := g10 i j hz
      refine ⟨?_, ?_⟩
      · show (if i = a then false else W.1 i) = true
        rw [if_neg (by omega)]
        exact t1
      · show (if j = a then false else W.1 j) = true
        rw [if_neg (by omega)]
        exact t2
/-- the reference's DIAGRAM -/
def rwR (N : mm_M) (inp : Nat) (W : WB) : Prop := N.1 108 98 = 1 ∧ N.1 108 99 = nI inp ∧ (∀ i, i < 60 → N.1 169 i = if W.1 i = true then 1 else 0) ∧ (∀ i, W.1 i = true → N.1 170 i = nI (W.2.1 i)) ∧ ∀ i j, i < 60 → j < 60 → N.1 171 (60 * i + j) = nI (W.2.2 i j)
/-- what a step of the reference may change in it -/
def rwF (N N' : mm_M) : Prop := (∀ k, k ≠ 169 → k ≠ 170 → k ≠ 171 → N'.1 k = N.1 k) ∧ N'.2 = N.2
theorem rwF_r (N : mm_M) : rwF N N := ⟨fun _ _ _ _ => rfl, rfl⟩
theorem rwF_t {M N K : mm_M} (h : rwF M N) (h' : rwF N K) : rwF M K := ⟨fun k a b c => (h'.1 k a b c).trans (h.1 k a b c), h'.2.trans h.2⟩
section WBT
variable {d m inp : Nat} {N : mm_M} {W : WB}
set_option maxRecDepth 100000 in
theorem ct_thC {p : Int32} (h : cwR N m inp W) (g : gdW m inp W) : am_M (d + 1) false nm_X10_isThere [aR 39, aI p] N (am_q1 (aI (nI (iteC (∃ i, W.1 i = true ∧ p = nI i) 1 0))) N) := by
  have h1 := g.1
  have h2 := g.2.2.2.2.1
  have h3 := h.1
  have h5 := h.2.2.1
  refine ⟨rfl, rfl, rfl, fun X hX => am_run hX 40 _ _ _ _ ?_⟩
  conv => whnf
  refine ⟨fun c => ?_, fun c => ?_⟩
  · conv => whnf
    rw [iteC_f (fun ⟨i, t, e⟩ => by rw [e] at c; have := h2 i t; exact nI_pos (by omega) c)]
    exact ⟨rfl, rfl, rfl⟩
  · obtain ⟨i, hi, rfl⟩ := nI_of c
    have inj : ∀ j, W.1 j = true → nI i = nI j → i = j := fun j t e => by
      have := h2 j t
      exact (nI_eq hi (by omega)).mp e
    conv => whnf
    rw [h3]
    refine ⟨fun c2 => ?_, fun c2 => ?_⟩
    · conv => whnf
      rw [iteC_f (fun ⟨j, t, e⟩ => by
        have ej := inj j t e
        have := h2 j t
        exact nI_ge (a := i) (b := m) (by omega) (by omega) c2)]
      exact ⟨rfl, rfl, rfl⟩
    · have im : i < m := Nat.lt_of_not_le fun q => c2 (nI_le q hi)
      conv => whnf
      have key := lb_us (x := N.2 39 10) (i := i) (by omega)
      rw [h5 i (by omega)] at key
      refine ⟨fun c3 => ?_, fun c3 => ?_⟩
      · have tf := key.mp c3
        conv => whnf
        rw [iteC_f (fun ⟨j, t, e⟩ => by rw [inj j t e, t] at tf; cases tf)]
        exact ⟨rfl, rfl, rfl⟩
      · have tt : W.1 i = true := by
          cases q : W.1 i
          · exact absurd (key.mpr q) c3
          · rfl
        conv => whnf
        rw [iteC_t ⟨i, tt, rfl⟩]
        exact ⟨rfl, rfl, rfl⟩
set_option maxRecDepth 100000 in
theorem ct_thR {p : Int32} (h : rwR N inp W) (g : gdW m inp W) : am_M (d + 1) false nm_X12_isSpider [aR 108, aI p] N (am_q1 (aI (nI (iteC (∃ i, W.1 i = true ∧ p = nI i) 1 0))) N) := by
  have h1 := g.1
  have h2 := g.2.2.2.2.1
  have h4 := h.1
  have h6 := h.2.2.1
  refine ⟨rfl, rfl, rfl, fun X hX => am_run hX 40 _ _ _ _ ?_⟩
  conv => whnf
  rw [h4]
  refine ⟨fun c => absurd c (by decide), fun _ => ?_⟩
  conv => whnf
  refine ⟨fun c => ?_, fun c => ?_⟩
  · conv => whnf
    rw [iteC_f (fun ⟨i, t, e⟩ => by rw [e] at c; have := h2 i t; exact nI_pos (by omega) c)]
    exact ⟨rfl, rfl, rfl⟩
  · obtain ⟨i, hi, rfl⟩ := nI_of c
    have inj : ∀ j, W.1 j = true → nI i = nI j → i = j := fun j t e => by
      have := h2 j t
      exact (nI_eq hi (by omega)).mp e
    conv => whnf
    refine ⟨fun c2 => ?_, fun c2 => ?_⟩
    · conv => whnf
      rw [iteC_f (fun ⟨j, t, e⟩ => by
        have ej := inj j t e
        have := h2 j t
        exact nI_ge (a := i) (b := 60) (by omega) (by decide) c2)]
      exact ⟨rfl, rfl, rfl⟩
    · have im : i < 60 := Nat.lt_of_not_le fun q => c2 (nI_le (a := 60) q hi)
      conv => whnf
      refine ⟨vp_in_nI (by show i < 60; omega) (by decide), ?_⟩
      conv => whnf
      rw [nI_clamp (n := i) (by omega), h6 i im]
      cases q : W.1 i
      · rw [if_neg (by decide)]
        refine ⟨fun _ => ?_, fun z => absurd rfl z⟩
        conv => whnf
        rw [iteC_f (fun ⟨j, t, e⟩ => by rw [inj j t e, t] at q; cases q)]
        exact ⟨rfl, rfl, rfl⟩
      · rw [if_pos rfl]
        refine ⟨fun z => absurd z (by decide), fun _ => ?_⟩
        conv => whnf
        rw [iteC_t ⟨i, q, rfl⟩]
        exact ⟨rfl, rfl, rfl⟩
/-- an inner SPIDER -/
def inW (inp : Nat) (W : WB) (i : Nat) : Prop := W.1 i = true ∧ 2 * inp ≤ i
set_option maxRecDepth 100000 in
theorem ct_inC {p : Int32} (h : cwR N m inp W) (g : gdW m inp W) : am_M (d + 2) false nm_X10_isInner [aR 39, aI p] N (am_q1 (aI (nI (iteC (∃ i, inW inp W i ∧ p = nI i) 1 0))) N) := by
  have h3 := h.2.1
  have g3 := g.2.2.1
  have g1 := g.1
  have g5 := g.2.2.2.2.1
  refine ⟨rfl, rfl, rfl, fun X hX => am_run hX 30 _ _ _ _ ?_⟩
  conv => whnf
  rw [h3, show (2 : Int32) = nI 2 from rfl, nI_mul]
  refine ⟨fun c => ?_, fun c => ?_⟩
  · conv => whnf
    rw [iteC_f (fun ⟨i, t, e⟩ => by
      rw [e] at c
      have := g5 i t.1
      exact nI_nlt t.2 (by omega) c)]
    exact ⟨rfl, rfl, rfl⟩
  · conv => whnf
    refine am_c1 (ct_thC (d := d) h g) ?_
    by_cases ht : ∃ i, W.1 i = true ∧ p = nI i
    · rw [iteC_t ht]
      conv => whnf
      refine ⟨fun c => absurd c (by decide), fun _ => ?_⟩
      conv => whnf
      obtain ⟨i, t, rfl⟩ := ht
      have := g5 i t
      rw [iteC_t ⟨i, ⟨t, Nat.le_of_not_lt fun z => c (nI_lt z (by omega))⟩, rfl⟩]
      exact ⟨rfl, rfl, rfl⟩
    · rw [iteC_f ht]
      conv => whnf
      refine ⟨fun _ => ?_, fun c => absurd rfl c⟩
      conv => whnf
      rw [iteC_f (fun ⟨i, t, e⟩ => ht ⟨i, t.1, e⟩)]
      exact ⟨rfl, rfl, rfl⟩
set_option maxRecDepth 100000 in
theorem ct_inR {p : Int32} (h : rwR N inp W) (g : gdW m inp W) : am_M (d + 2) false nm_X12_isInner [aR 108, aI p] N (am_q1 (aI (nI (iteC (∃ i, inW inp W i ∧ p = nI i) 1 0))) N) := by
  have h3 := h.2.1
  have g3 := g.2.2.1
  have g1 := g.1
  have g5 := g.2.2.2.2.1
  refine ⟨rfl, rfl, rfl, fun X hX => am_run hX 30 _ _ _ _ ?_⟩
  conv => whnf
  refine am_c1 (ct_thR (d := d) h g) ?_
  by_cases ht : ∃ i, W.1 i = true ∧ p = nI i
  · rw [iteC_t ht]
    conv => whnf
    refine ⟨fun c => absurd c (by decide), fun _ => ?_⟩
    conv => whnf
    obtain ⟨i, t, rfl⟩ := ht
    have := g5 i t
    rw [h3, show (2 : Int32) = nI 2 from rfl, nI_mul]
    refine ⟨fun c => ?_, fun c => ?_⟩
    · conv => whnf
      rw [iteC_f (fun ⟨j, t', e⟩ => by
        rw [e] at c
        have := g5 j t'.1
        exact nI_nlt t'.2 (by omega) c)]
      exact ⟨rfl, rfl, rfl⟩
    · conv => whnf
      rw [iteC_t ⟨i, ⟨t, Nat.le_of_not_lt fun z => c (nI_lt z (by omega))⟩, rfl⟩]
      exact ⟨rfl, rfl, rfl⟩
  · rw [iteC_f ht]
    conv => whnf
    refine ⟨fun _ => ?_, fun c => absurd rfl c⟩
    conv => whnf
    rw [iteC_f (fun ⟨i, t, e⟩ => ht ⟨i, t.1, e⟩)]
    exact ⟨rfl, rfl, rfl⟩
theorem at60 (i j : Nat) : (60 : Int32) * nI i + nI j = nI (60 * i + j) := by
  rw [show (60 : Int32) = nI 60 from rfl, nI_mul, nI_add]
set_option maxRecDepth 100000 in
theorem ct_ekR {i j : Nat} (h : rwR N inp W) (hi : i < 60) (hj : j < 60) : am_M (d + 1) false nm_X12_edgeOf [aR 108, aI (nI i), aI (nI j)] N (am_q1 (aI (nI (W.2.2 i j))) N) := by
  refine ⟨rfl, rfl, rfl, fun X hX => am_run hX 20 _ _ _ _ ?_⟩
  conv => whnf
  rw [at60]
  refine ⟨vp_in_nI (by show 60 * i + j < 3600; omega) (by decide), ?_⟩
  conv => whnf
  rw [nI_clamp (n := 60 * i + j) (by omega), h.2.2.2.2 i j hi hj]
  exact ⟨trivial, rfl, rfl⟩
def seR (N : mm_M) (a b v : Nat) : mm_M := mm_i N 171 (upd (upd (N.1 171) (60 * a + b) (nI v)) (60 * b + a) (nI v))
set_option maxRecDepth 100000 in
theorem ct_seR0 {a b v : Nat} (ha : a < 60) (hb : b < 60) : am_M (d + 1) false nm_X12_setEdge [aR 108, aI (nI a), aI (nI b), aI (nI v)] N (am_q0 (seR N a b v)) := by
  refine ⟨rfl, rfl, rfl, fun X hX => am_run hX 40 _ _ _ _ ?_⟩
  conv => whnf
  rw [at60]
  refine ⟨vp_in_nI (by show 60 * a + b < 3600; omega) (by decide), ?_⟩
  conv => whnf
  rw [at60]
  refine ⟨vp_in_nI (by show 60 * b + a < 3600; omega) (by decide), ?_⟩
  conv => whnf
  rw [mi_two, nI_clamp (n := 60 * a + b) (by omega), nI_clamp (n := 60 * b + a) (by omega)]
  exact ⟨trivial, rfl, rfl⟩
theorem rwR_se {a b v : Nat} (h : rwR N inp W) (ha : a < 60) (hb : b < 60) : rwR (seR N a b v) inp (W.1, W.2.1, stE W.2.2 a b v) := by
  obtain ⟨h1, h2, h3, h4, h5⟩ := h
  refine ⟨h1, h2, h3, h4, fun i j hi hj => ?_⟩
  show upd (upd (N.1 171) (60 * a + b) (nI v)) (60 * b + a) (nI v) (60 * i + j) = nI (stE W.2.2 a b v i j)
  unfold upd stE
  by_cases e1 : 60 * i + j = 60 * b + a
  · rw [if_pos e1, if_pos (by omega)]
  · rw [if_neg e1]
    by_cases e2 : 60 * i + j = 60 * a + b
    · rw [if_pos e2, if_pos (by omega)]
    · rw [if_neg e2, if_neg (by omega)]
      exact h5 i j hi hj
theorem rwF_se {a b v : Nat} : rwF N (seR N a b v) := by
  refine ⟨fun k _ _ c => ?_, rfl⟩
  simp [seR, mm_i, c]
def grR (N : mm_M) (a k : Nat) : mm_M := mm_i N 170 (upd (N.1 170) a ((N.1 170 a + nI k) &&& 7))
set_option maxRecDepth 100000 in
theorem ct_grR0 {a k : Nat} (ha : a < 60) : am_M (d + 1) false nm_X12_grow [aR 108, aI (nI a), aI (nI k)] N (am_q0 (grR N a k)) := by
  have hA : vp_in (nI a) 60 := vp_in_nI ha (by decide)
  refine ⟨rfl, rfl, rfl, fun X hX => am_run hX 20 _ _ _ _ ?_⟩
  conv => whnf
  refine ⟨hA, ?_⟩
  conv => whnf
  refine ⟨hA, ?_⟩
  conv => whnf
  rw [nI_clamp (n := a) (by omega)]
  exact ⟨trivial, rfl, rfl⟩
theorem rwR_gr {a k : Nat} (h : rwR N inp W) : rwR (grR N a k) inp (W.1, grw W.2.1 a k, W.2.2) := by
  obtain ⟨h1, h2, h3, h4, h5⟩ := h
  refine ⟨h1, h2, h3, fun i hi => ?_, h5⟩
  show upd (N.1 170) a ((N.1 170 a + nI k) &&& 7) i = nI (grw W.2.1 a k i)
  unfold upd grw
  by_cases e : i = a
  · rw [if_pos e, if_pos e, ← e, h4 i hi, nI_add, nI_m7]
  · rw [if_neg e, if_neg e]
    exact h4 i hi
theorem rwF_gr {a k : Nat} : rwF N (grR N a k) := by
  refine ⟨fun j _ b _ => ?_, rfl⟩
  simp [grR, mm_i, b]
set_option maxRecDepth 100000 in
theorem ct_jnR {a b v : Nat} (h : rwR N inp W) (e2 : W.2.2 a b ≤ 2) (ha : a < 60) (hb : b < 60) (hv : v = 1 ∨ v = 2) : am_M (d + 2) false nm_X12_join [aR 108, aI (nI a), aI (nI b), aI (nI v)] N (fun r N' => r = .inl none ∧ rwF N N' ∧ rwR N' inp (jnW W a b v)) := by
  have k := ct_ekR (d := d) (i := a) (j := b) h ha hb
  refine ⟨rfl, rfl, rfl, fun X hX => am_run hX 7 _ _ _ _ ?_⟩
  conv => whnf
  refine am_c1 k ?_
  conv => whnf
  by_cases h0 : W.2.2 a b = 0
  · rw [jn_0 h0] at hX
    rw [h0]
    refine ⟨fun c => absurd rfl c, fun _ => ?_⟩
    refine am_run hX 7 _ _ _ _ ?_
    conv => whnf
    refine am_c0 (ct_seR0 (d := d) (a := a) (b := b) (v := v) ha hb) ?_
    conv => whnf
    exact ⟨trivial, rfl, rwF_se, rwR_se h ha hb⟩
  · refine ⟨fun _ => ?_, fun c => absurd (nI_ne0 (by omega) (by omega)) c⟩
    by_cases h1 : W.2.2 a b = v
    · rw [jn_e h0 h1] at hX
      refine am_run hX 3 _ _ _ _ ?_
      conv => whnf
      rw [h1]
      refine ⟨fun c => absurd rfl c, fun _ => ?_⟩
      rcases hv with rfl | rfl
      · refine am_run hX 12 _ _ _ _ ?_
        conv => whnf
        refine ⟨fun c => absurd rfl c, fun _ => ?_⟩
        conv => whnf
        refine am_c0 (ct_seR0 (d := d) (a := a) (b := b) (v := 1) ha hb) ?_
        conv => whnf
        exact ⟨trivial, rfl, rwF_se, rwR_se h ha hb⟩
      · refine am_run hX 10 _ _ _ _ ?_
        conv => whnf
        refine ⟨fun _ => ?_, fun c => absurd (by decide) c⟩
        conv => whnf
        refine am_c0 (ct_seR0 (d := d) (a := a) (b := b) (v := 0) ha hb) ?_
        conv => whnf
        exact ⟨trivial, rfl, rwF_se, rwR_se h ha hb⟩
    · rw [jn_n h0 h1] at hX
      refine am_run hX 3 _ _ _ _ ?_
      conv => whnf
      refine ⟨fun _ => ?_, fun c => absurd (fun z => h1 ((nI_eq (by omega) (by omega)).mp z)) c⟩
      refine am_run hX 9 _ _ _ _ ?_
      conv => whnf
      refine am_c0 (ct_seR0 (d := d) (a := a) (b := b) (v := 1) ha hb) ?_
      conv => whnf
      have fin : ∀ c, c = min a b → X 66 [some (aR 108), some (aI (nI a)), some (aI (nI b)), some (aI (nI v)), some (aI (nI (W.2.2 a b)))] [aI (nI c), aR 108] (seR N a b 1) := fun c hc => by
        refine am_run hX 3 _ _ _ _ ?_
        conv => whnf
        refine am_c0 (ct_grR0 (d := d) (a := c) (k := 4) (by omega)) ?_
        conv => whnf
        rw [hc]
        exact ⟨trivial, rfl, rwF_t rwF_se rwF_gr, rwR_gr (rwR_se h ha hb)⟩
      by_cases c : b ≤ a
      · refine ⟨fun _ => ?_, fun z => absurd (nI_le c (by omega)) z⟩
        refine am_run hX 1 _ _ _ _ ?_
        conv => whnf
        exact fin b (by omega)
      · refine ⟨fun z => absurd z (nI_ge (by omega) (by omega)), fun _ => ?_⟩
        refine am_run hX 2 _ _ _ _ ?_
        conv => whnf
        exact fin a (by omega)
end WBT
