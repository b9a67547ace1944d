/-! DIAGRAMS: the class's join, remove, isThere, isInner -/
section WBJ
variable {d m inp : Nat} {N : mm_M} {W : WB}
/-- nothing of the object but the SPIDERS' rows -/
def cwK (N N' : mm_M) : Prop := cwF N N' ∧ N'.1 39 = N.1 39
theorem cwK_t {M K : mm_M} (h : cwK M N) (h' : cwK N K) : cwK M K := ⟨cwF_t h.1 h'.1, h'.2.trans h.2⟩
theorem cwK_r : cwK N N := ⟨cwF_r N, rfl⟩
theorem cwK_se {a b v : Nat} : cwK N (seM N a b v) := ⟨cwF_se, rfl⟩
theorem cwK_gr {a k : Nat} : cwK N (grM N a k) := ⟨cwF_gr, rfl⟩
theorem jn_0 {a b v : Nat} (h : W.2.2 a b = 0) : jnW W a b v = (W.1, W.2.1, stE W.2.2 a b v) := by
  unfold jnW
  rw [if_pos h]
theorem jn_e {a b v : Nat} (h0 : W.2.2 a b ≠ 0) (h : W.2.2 a b = v) : jnW W a b v = (W.1, W.2.1, stE W.2.2 a b (if v = 1 then 1 else 0)) := by
  unfold jnW
  rw [if_neg h0, if_pos h]
theorem jn_n {a b v : Nat} (h0 : W.2.2 a b ≠ 0) (h : W.2.2 a b ≠ v) : jnW W a b v = (W.1, grw W.2.1 (min a b) 4, stE W.2.2 a b 1) := by
  unfold jnW
  rw [if_neg h0, if_neg h]
theorem stE_s {E : Nat → Nat → Nat} {a b v : Nat} (h1 : E a b = v) (h2 : E b a = v) : stE E a b v = E := by
  funext x y
  unfold stE
  by_cases e : (x = a ∧ y = b) ∨ (x = b ∧ y = a)
  · rw [if_pos e]
    rcases e with ⟨rfl, rfl⟩ | ⟨rfl, rfl⟩
    · exact h1.symm
    · exact h2.symm
  · rw [if_neg e]
set_option maxRecDepth 100000 in
theorem jc_a {a b t : Nat} {Pp : am_Q} {X : am_X} {e : Nat} (hX : am_K (d + 1) false nm_X10_join Pp X) (h : cwR N m inp W) (m60 : m ≤ 60) (he : W.2.2 a b = e) (e2 : e ≤ 2) (ha : a < m) (hb : b < 60) (ht : t < 2) (hK : X 19 [some (aR 39), some (aI (nI a)), some (aI (nI b)), some (aI (nI t)), some (aI (nI e)), some (aI (nI (t + 1)))] [] N) : X 0 [some (aR 39), some (aI (nI a)), some (aI (nI b)), some (aI (nI t)), none, none] [] N := by
  have k := ct_ekC (d := d) (i := a) (j := b) h m60 (by omega) ha hb
  rw [he] at k
  refine am_run hX 7 _ _ _ _ ?_
  conv => whnf
  refine am_c1 k ?_
  conv => whnf
  obtain rfl | rfl : t = 0 ∨ t = 1 := by omega
  · refine ⟨fun _ => ?_, fun c => absurd rfl c⟩
    refine am_run hX 2 _ _ _ _ ?_
    conv => whnf
    exact hK
  · refine ⟨fun c => absurd c (by decide), fun _ => ?_⟩
    refine am_run hX 3 _ _ _ _ ?_
    conv => whnf
    exact hK
set_option maxRecDepth 100000 in
theorem ct_jnC {a b t : Nat} (h : cwR N m inp W) (m60 : m ≤ 60) (e2 : W.2.2 a b ≤ 2) (es : W.2.2 b a = W.2.2 a b) (hab : a ≠ b) (ha : a < m) (hb : b < m) (ht : t < 2) : am_M (d + 2) false nm_X10_join [aR 39, aI (nI a), aI (nI b), aI (nI t)] N (fun r N' => r = .inl none ∧ cwK N N' ∧ cwR N' m inp (jnW W a b (t + 1))) := by
  refine ⟨rfl, rfl, rfl, fun X hX => jc_a (d := d) hX h m60 rfl e2 ha (by omega) ht ?_⟩
  by_cases h0 : W.2.2 a b = 0
  · rw [jn_0 h0] at hX
    rw [h0]
    refine am_run hX 8 _ _ _ _ ?_
    conv => whnf
    refine ⟨fun c => absurd rfl c, fun _ => ?_⟩
    conv => whnf
    refine am_c0 (ct_seC0 (d := d) (a := a) (b := b) (v := t + 1) (by omega) (by omega) (by omega)) ?_
    conv => whnf
    refine am_run hX 1 _ _ _ _ ?_
    conv => whnf
    exact ⟨trivial, rfl, cwK_se, cwR_se h hab (by omega) (by omega)⟩
  · refine am_run hX 2 _ _ _ _ ?_
    conv => whnf
    refine ⟨fun _ => ?_, fun c => absurd (nI_ne0 (by omega) (by omega)) c⟩
    by_cases h1 : W.2.2 a b = t + 1
    · rw [jn_e h0 h1] at hX
      refine am_run hX 3 _ _ _ _ ?_
      conv => whnf
      rw [h1]
      refine ⟨fun _ => ?_, fun c => absurd rfl c⟩
      refine am_run hX 2 _ _ _ _ ?_
      conv => whnf
      obtain rfl | rfl : t = 0 ∨ t = 1 := by omega
      · refine ⟨fun _ => ?_, fun c => absurd rfl c⟩
        refine am_run hX 1 _ _ _ _ ?_
        conv => whnf
        refine ⟨trivial, rfl, cwK_r, ?_⟩
        rw [if_pos rfl, stE_s h1 (by rw [es]; exact h1)]
        exact h
      · refine ⟨fun c => absurd c (by decide), fun _ => ?_⟩
        refine am_run hX 6 _ _ _ _ ?_
        conv => whnf
        refine am_c0 (ct_seC0 (d := d) (a := a) (b := b) (v := 0) (by omega) (by omega) (by omega)) ?_
        conv => whnf
        exact ⟨trivial, rfl, cwK_se, cwR_se h hab (by omega) (by omega)⟩
    · rw [jn_n h0 h1] at hX
      refine am_run hX 3 _ _ _ _ ?_
      conv => whnf
      refine ⟨fun c => absurd ((nI_eq (by omega) (by omega)).mp c) h1, fun _ => ?_⟩
      refine am_run hX 12 _ _ _ _ ?_
      conv => whnf
      refine am_c0 (ct_seC0 (d := d) (a := a) (b := b) (v := 1) (by omega) (by omega) (by omega)) ?_
      conv => whnf
      rw [nI_min (by omega) (by omega)]
      refine am_c0 (ct_grC0 (d := d) (a := min a b) (k := 4) (by omega)) ?_
      conv => whnf
      refine am_run hX 1 _ _ _ _ ?_
      conv => whnf
      exact ⟨trivial, rfl, cwK_t cwK_se cwK_gr, cwR_gr (cwR_se h hab (by omega) (by omega))⟩
/-- the first i EDGES of a SPIDER are gone -/
def rmE (E : Nat → Nat → Nat) (a i : Nat) : Nat → Nat → Nat := fun x y => if (x = a ∧ y < i) ∨ (y = a ∧ x < i) then 0 else E x y
theorem rmE_0 {E : Nat → Nat → Nat} {a : Nat} : rmE E a 0 = E := by
  funext x y
  unfold rmE
  rw [if_neg (by omega)]
theorem rmE_s {E : Nat → Nat → Nat} {a i : Nat} : stE (rmE E a i) a i 0 = rmE E a (i + 1) := by
  funext x y
  unfold stE rmE
  by_cases e : (x = a ∧ y = i) ∨ (x = i ∧ y = a)
  · rw [if_pos e, if_pos (by omega)]
  · rw [if_neg e]
    by_cases e2 : (x = a ∧ y < i) ∨ (y = a ∧ x < i)
    · rw [if_pos e2, if_pos (by omega)]
    · rw [if_neg e2, if_neg (by omega)]
theorem rmE_z {E : Nat → Nat → Nat} {a i : Nat} (h : rmE E a i a i = 0) (hs : E a i = E i a) : rmE E a (i + 1) = rmE E a i := by
  rw [← rmE_s]
  refine stE_s h ?_
  unfold rmE at *
  by_cases e2 : (i = a ∧ a < i) ∨ (a = a ∧ i < i)
  · omega
  · rw [if_neg e2]
    by_cases e3 : (a = a ∧ i < i) ∨ (i = a ∧ a < i)
    · omega
    · rw [if_neg e3] at h
      omega
theorem rmE_m {a : Nat} (g : gdW m inp W) : rmE W.2.2 a m = (rmW W a).2.2 := by
  funext x y
  show rmE W.2.2 a m x y = if x = a ∨ y = a then 0 else W.2.2 x y
  unfold rmE
  by_cases e : x = a ∨ y = a
  · rw [if_pos e]
    by_cases e2 : (x = a ∧ y < m) ∨ (y = a ∧ x < m)
    · rw [if_pos e2]
    · rw [if_neg e2]
      apply Decidable.byContradiction
      intro z
      obtain ⟨t1, t2⟩ := g.2.2.2.2.2.2.2.2.2.1 x y z
      have := g.2.2.2.2.1 x t1
      have := g.2.2.2.2.1 y t2
      omega
  · rw [if_neg e, if_neg (by omega)]
set_option maxRecDepth 100000 in
theorem wrc_l {a : Nat} {Pp : am_Q} {X : am_X} {N0 : mm_M} (hX : am_K (d + 1) false nm_X10_remove Pp X) (g : gdW m inp W) (ha : a < m) (hK : ∀ N l2, cwK N0 N → cwR N m inp (W.1, W.2.1, rmE W.2.2 a m) → X 32 [some (aR 39), some (aI (nI a)), l2] [] N) : ∀ w i N, i + w = m → cwK N0 N → cwR N m inp (W.1, W.2.1, rmE W.2.2 a i) → X 2 [some (aR 39), some (aI (nI a)), some (aI (nI i))] [] N := by
  have m60 := g.1
  intro w
  induction w with
  | zero =>
    intro i N hi hf h
    have hi : i = m := by omega
    subst hi
    refine am_run hX 4 _ _ _ _ ?_
    conv => whnf
    rw [h.1]
    refine ⟨fun _ => ?_, fun c => absurd (nI_le (by omega) (by omega)) c⟩
    exact hK N _ hf h
  | succ w ih =>
    intro i N hi hf h
    have e2 : rmE W.2.2 a i a i ≤ 2 := by
      unfold rmE
      have := g.2.2.2.2.2.2.2.2.1 a i
      by_cases e : (a = a ∧ i < i) ∨ (i = a ∧ a < i)
      · rw [if_pos e]; omega
      · rw [if_neg e]; exact this
    have k := ct_ekC (d := d) (i := a) (j := i) h m60 e2 ha (by omega)
    refine am_run hX 4 _ _ _ _ ?_
    conv => whnf
    rw [h.1]
    refine ⟨fun c => absurd c (nI_ge (by omega) (by omega)), fun _ => ?_⟩
    refine am_run hX 5 _ _ _ _ ?_
    conv => whnf
    refine am_c1 k ?_
    conv => whnf
    have k26 : ∀ N', cwK N0 N' → cwR N' m inp (W.1, W.2.1, rmE W.2.2 a (i + 1)) → X 26 [some (aR 39), some (aI (nI a)), some (aI (nI i))] [] N' := fun N' f' h' => by
      refine am_run hX 2 _ _ _ _ ?_
      conv => whnf
      rw [nI_1]
      exact ih (i + 1) N' (by omega) f' h'
    by_cases h0 : rmE W.2.2 a i a i = 0
    · have key := k26 N hf (by rw [rmE_z h0 (g.2.2.2.2.2.2.1 a i)]; exact h)
      exact ⟨fun _ => key, fun c => absurd (by show nI (rmE W.2.2 a i a i) = 0; rw [h0]; rfl) c⟩
    · have hai : a ≠ i := fun z => by
        apply h0
        unfold rmE
        by_cases e : (a = a ∧ i < i) ∨ (i = a ∧ a < i)
        · rw [if_pos e]
        · rw [if_neg e, ← z]
          exact g.2.2.2.2.2.2.2.1 a
      show (nI (rmE W.2.2 a i a i) = 0 → _) ∧ _
      refine ⟨fun c => absurd c (nI_ne0 (by omega) (by omega)), fun _ => ?_⟩
      refine am_run hX 5 _ _ _ _ ?_
      conv => whnf
      refine am_c0 (ct_seC0 (d := d) (a := a) (b := i) (v := 0) (by omega) (by omega) (by omega)) ?_
      conv => whnf
      refine k26 _ (cwK_t hf cwK_se) ?_
      have := cwR_se (a := a) (b := i) (v := 0) h hai (by omega) (by omega)
      rw [← rmE_s]
      exact this
set_option maxRecDepth 100000 in
theorem ct_rmC {a : Nat} (h : cwR N m inp W) (g : gdW m inp W) (ha : a < m) : am_M (d + 2) false nm_X10_remove [aR 39, aI (nI a)] N (fun r N' => r = .inl none ∧ cwF N N' ∧ N'.1 39 9 = -1 ∧ cwR N' m inp (rmW W a)) := by
  have m60 := g.1
  refine ⟨rfl, rfl, rfl, fun X hX => am_run hX 2 _ _ _ _ ?_⟩
  conv => whnf
  refine wrc_l (d := d) (N0 := N) hX g ha (fun N' l2 hf h' => ?_) m 0 N (by omega) cwK_r (by rw [rmE_0]; exact h)
  refine am_run hX 20 _ _ _ _ ?_
  conv => whnf
  obtain ⟨h1, h2, h3, h4, h5⟩ := h'
  refine ⟨trivial, rfl, cwF_t hf.1 ?_, rfl, h1, h2, fun i hi => ?_, fun i hi => ?_, fun i hi j hj => ?_⟩
  · refine ⟨fun k c1 _ => ?_, fun k c1 _ _ => ?_, fun j c => ?_, fun j c => ?_⟩
    · simp [mm_i, mm_l, c1]
    · simp [mm_i, mm_l, c1]
    · show upd (N'.1 39) 9 (-1) j = N'.1 39 j
      unfold upd
      rw [if_neg c]
    · show vp_updL (N'.2 39) 10 _ j = N'.2 39 j
      unfold vp_updL
      rw [if_neg c]
  · show (opb false (N'.2 39 10) a).toBitVec.getLsbD i = if i = a then false else W.1 i
    rw [opb_b (by omega) hi, h3 i hi]
  · have hi : (if i = a then false else W.1 i) = true := hi
    by_cases e : i = a
    · rw [if_pos e] at hi
      exact absurd hi (by decide)
    · rw [if_neg e] at hi
      exact h4 i hi
  · have := h5 i hi j hj
    rw [show (W.1, W.2.1, rmE W.2.2 a m).2.2 = (rmW W a).2.2 from rmE_m g] at this
    exact this
end WBJ
