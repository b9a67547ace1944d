/-! DIAGRAMS: INPUTS and OUTPUTS have phase 0 and at most one EDGE: the RULES keep it -/
def oD (inp : Nat) (W : WB) : Prop := ∀ i, i < 2 * inp → W.2.1 i = 0 ∧ ∀ x y, W.2.2 i x ≠ 0 → W.2.2 i y ≠ 0 → x = y
section OUT
variable {m inp : Nat} {W : WB}
theorem oD_rm {a : Nat} (h : oD inp W) : oD inp (rmW W a) := fun i hi => by
  obtain ⟨h1, h2⟩ := h i hi
  have k : ∀ x, (rmW W a).2.2 i x ≠ 0 → W.2.2 i x ≠ 0 := fun x hx z => by
    apply hx
    show (if i = a ∨ x = a then 0 else W.2.2 i x) = 0
    rw [z, ite_self]
  exact ⟨h1, fun x y hx hy => h2 x y (k x hx) (k y hy)⟩
theorem oD_gr {a k : Nat} (h : oD inp W) (ha : 2 * inp ≤ a) : oD inp (W.1, grw W.2.1 a k, W.2.2) := fun i hi => by
  obtain ⟨h1, h2⟩ := h i hi
  refine ⟨?_, h2⟩
  show grw W.2.1 a k i = 0
  unfold grw
  rw [if_neg (by omega)]
  exact h1
theorem oD_st {a b v : Nat} {ph : Nat → Nat} (h : oD inp W) (hp : ∀ i, i < 2 * inp → ph i = 0) (ha : 2 * inp ≤ a) (hb : 2 * inp ≤ b ∨ ∀ x, W.2.2 b x = 0) : oD inp (W.1, ph, stE W.2.2 a b v) := fun i hi => by
  obtain ⟨_, h2⟩ := h i hi
  refine ⟨hp i hi, fun x y hx hy => ?_⟩
  have hx : stE W.2.2 a b v i x ≠ 0 := hx
  have hy : stE W.2.2 a b v i y ≠ 0 := hy
  unfold stE at hx hy
  by_cases e : i = b
  · have z : ∀ x, W.2.2 i x = 0 := fun x => by
      rcases hb with hb | hb
      · omega
      · rw [e]
        exact hb x
    have k : ∀ x, (if (i = a ∧ x = b) ∨ (i = b ∧ x = a) then v else W.2.2 i x) ≠ 0 → x = a := fun x hx => by
      by_cases c : (i = a ∧ x = b) ∨ (i = b ∧ x = a)
      · rcases c with c | c
        · omega
        · exact c.2
      · rw [if_neg c] at hx
        exact absurd (z x) hx
    rw [k x hx, k y hy]
  · rw [if_neg (by omega)] at hx hy
    exact h2 x y hx hy
theorem oD_jn {a b v : Nat} (h : oD inp W) (g : gdW m inp W) (ha : 2 * inp ≤ a) (hb : 2 * inp ≤ b ∨ ∀ x, W.2.2 b x = 0) : oD inp (jnW W a b v) := by
  have hp : ∀ i, i < 2 * inp → W.2.1 i = 0 := fun i hi => (h i hi).1
  unfold jnW
  by_cases h0 : W.2.2 a b = 0
  · rw [if_pos h0]
    exact oD_st h hp ha hb
  · rw [if_neg h0]
    by_cases h1 : W.2.2 a b = v
    · rw [if_pos h1]
      exact oD_st h hp ha hb
    · rw [if_neg h1]
      refine oD_st h (fun i hi => ?_) ha hb
      have b2 : 2 * inp ≤ b := by
        rcases hb with hb | hb
        · exact hb
        · exact absurd ((g.2.2.2.2.2.2.1 a b).trans (hb a)) h0
      unfold grw
      rw [if_neg (by omega)]
      exact hp i hi
theorem jn_sw {a b v : Nat} (g : gdW m inp W) : jnW W a b v = jnW W b a v := by
  have e : W.2.2 a b = W.2.2 b a := g.2.2.2.2.2.2.1 a b
  have st : ∀ u, stE W.2.2 a b u = stE W.2.2 b a u := fun u => by
    funext x y
    unfold stE
    by_cases c : (x = a ∧ y = b) ∨ (x = b ∧ y = a)
    · rw [if_pos c, if_pos (by omega)]
    · rw [if_neg c, if_neg (by omega)]
  unfold jnW
  rw [e, Nat.min_comm a b, st, st, st]
theorem fu_row {Eb : Nat → Nat} {a i x : Nat} (hi : i ≠ a) (n : Nat) : n ≤ i → (fuJ Eb a W n).2.2 i x = W.2.2 i x := by
  induction n with
  | zero => exact fun _ => rfl
  | succ n ih =>
    intro hn
    have ih := ih (by omega)
    by_cases h : n ≠ a ∧ Eb n ≠ 0
    · rw [fu_p h, jn_E (by omega), ih]
    · rw [fu_n h, ih]
theorem fu_oD {Eb : Nat → Nat} {a : Nat} (g : gdW m inp W) (h : oD inp W) (ta : W.1 a = true) (ha : 2 * inp ≤ a) (ht : ∀ i, i ≠ a → Eb i ≠ 0 → W.1 i = true) (h2 : ∀ i, Eb i ≤ 2) (hz : ∀ i, i < 2 * inp → Eb i ≠ 0 → ∀ x, W.2.2 i x = 0) : ∀ n, oD inp (fuJ Eb a W n)
  | 0 => h
  | n + 1 => by
    have ih := fu_oD g h ta ha ht h2 hz n
    by_cases hc : n ≠ a ∧ Eb n ≠ 0
    · rw [fu_p hc]
      refine oD_jn ih (fu_gd g ta ht h2 n) ha ?_
      by_cases hn : 2 * inp ≤ n
      · exact Or.inl hn
      · refine Or.inr fun x => ?_
        rw [fu_row hc.1 n (Nat.le_refl _)]
        exact hz n (by omega) hc.2 x
    · rw [fu_n hc]
      exact ih
theorem ja_oD {S : Nat → Bool} {i : Nat} (g : gdW m inp W) (h : oD inp W) (ti : W.1 i = true) (hi : 2 * inp ≤ i) (hs : ∀ j, S j = true → W.1 j = true ∧ 2 * inp ≤ j) : ∀ n, n ≤ i → oD inp (jaW W i S n)
  | 0, _ => h
  | n + 1, hn => by
    have ih := ja_oD g h ti hi hs n (by omega)
    by_cases hc : S n = true
    · rw [ja_p hc]
      exact oD_jn ih (ja_gdn g ti (fun j hj => (hs j hj).1) n (by omega)) hi (Or.inl (hs n hc).2)
    · rw [ja_n hc]
      exact ih
theorem cp_oD {S : Nat → Bool} {k : Nat} (g : gdW m inp W) (h : oD inp W) (hs : ∀ j, S j = true → W.1 j = true ∧ 2 * inp ≤ j) : ∀ n, oD inp (cpJ S k W n)
  | 0 => h
  | n + 1 => by
    have ih := cp_oD (k := k) g h hs n
    by_cases hc : S n = true
    · rw [cp_p hc]
      refine ja_oD (gd_gr (cp_gd (k := k) g (fun j hj => (hs j hj).1) n)) (oD_gr ih (hs n hc).2) ?_ (hs n hc).2 (fun j hj => ⟨?_, (hs j hj).2⟩) n (Nat.le_refl _)
      · show (cpJ S k W n).1 n = true
        rw [cp_T]
        exact (hs n hc).1
      · show (cpJ S k W n).1 j = true
        rw [cp_T]
        exact (hs j hj).1
    · rw [cp_n hc]
      exact ih
theorem rlV_oD {k p q : Int32} {V : WB} (g : gdW m inp W) (h : oD inp W) (hv : rlV inp m W k p q V) : oD inp V := by
  rcases hv with ⟨e, a, b, e1, e2, ⟨ia, ib, hab, he⟩, rfl⟩ | ⟨e, a, c, x, e1, y, hn, rfl⟩ | ⟨e, a, e1, y, rfl⟩ | ⟨e, a, b, e1, e2, y, rfl⟩
  · refine fu_oD (gd_gr (gd_rm g ib.2)) (oD_gr (oD_rm h) ia.2) ?_ ia.2 (fun i hi hz => ?_) (fun i => g.2.2.2.2.2.2.2.2.1 b i) (fun i hi hz x => ?_) m
    · show (if a = b then false else W.1 a) = true
      rw [if_neg (by omega)]
      exact ia.1
    · have t := (g.2.2.2.2.2.2.2.2.2.1 b i hz).2
      show (if i = b then false else W.1 i) = true
      rw [if_neg]
      · exact t
      · intro z
        rw [z, g.2.2.2.2.2.2.2.1] at hz
        exact hz rfl
    · show (if i = b ∨ x = b then 0 else W.2.2 i x) = 0
      by_cases c : i = b ∨ x = b
      · rw [if_pos c]
      · rw [if_neg c]
        apply Decidable.byContradiction
        intro z
        have := (h i hi).2 x b z (by rw [g.2.2.2.2.2.2.1]; exact hz)
        exact c (Or.inr this)
  · have ec := (hn.2 c).mpr (Or.inl rfl)
    have x2 := y.2.2.2 c x hn
    have gr := gd_rm g y.1.2
    unfold skW
    rw [jn_sw gr]
    refine oD_jn (oD_rm h) gr x2 ?_
    by_cases hc : 2 * inp ≤ c
    · exact Or.inl hc
    · refine Or.inr fun z => ?_
      show (if c = a ∨ z = a then 0 else W.2.2 c z) = 0
      by_cases e : c = a ∨ z = a
      · rw [if_pos e]
      · rw [if_neg e]
        apply Decidable.byContradiction
        intro w
        have := (h c (by omega)).2 z a w (by rw [g.2.2.2.2.2.2.1]; exact ec)
        exact e (Or.inr this)
  · refine cp_oD (gd_rm g y.1.2) (oD_rm h) (fun j hj => ?_) m
    have h2 := y.2.2.2.2 j hj
    have hj := of_decide_eq_true hj
    refine ⟨?_, h2⟩
    show (if j = a then false else W.1 j) = true
    rw [if_neg]
    · exact (g.2.2.2.2.2.2.2.2.2.1 a j (by omega)).2
    · intro z
      rw [z, g.2.2.2.2.2.2.2.1] at hj
      exact absurd hj (by decide)
  · have inn : ∀ i, sdW W a b i ≠ 0 → 2 * inp ≤ i := fun i hi => by
      obtain ⟨_, _, z | z⟩ := sd_nx.mp hi
      · exact (y.2.2.2.1 i (by rw [g.2.2.2.2.2.2.1]; exact z)).2
      · exact (y.2.2.2.2.1 i (by rw [g.2.2.2.2.2.2.1]; exact z)).2
    intro i hi
    have s0 : sdW W a b i = 0 := Decidable.byContradiction fun z => by
      have := inn i z
      omega
    have hr := oD_rm (a := b) (oD_rm (a := a) h) i hi
    refine ⟨?_, fun x z hx hz => ?_⟩
    · show pvP W.2.1 (amW W a b) m i = 0
      unfold pvP
      rw [amW_0 s0, (h i hi).1]
      exact ite_self _
    · have dd : ∀ x, (fun x y => decide (dfS (sdW W a b) x y)) i x = false := fun x => decide_eq_false fun w => w.1 s0
      have hx : tgE (rm2 W a b).2.2 (fun x y => decide (dfS (sdW W a b) x y)) i x ≠ 0 := hx
      have hz : tgE (rm2 W a b).2.2 (fun x y => decide (dfS (sdW W a b) x y)) i z ≠ 0 := hz
      rw [tg_f (dd x)] at hx
      rw [tg_f (dd z)] at hz
      exact hr.2 x z hx hz
end OUT
