/-! DIAGRAMS: fuse -/
def fuJ (Eb : Nat → Nat) (a : Nat) (W : WB) : Nat → WB
  | 0 => W
  | i + 1 => if i ≠ a ∧ Eb i ≠ 0 then jnW (fuJ Eb a W i) a i (Eb i) else fuJ Eb a W i
theorem fu_p {Eb : Nat → Nat} {a i : Nat} {W : WB} (h : i ≠ a ∧ Eb i ≠ 0) : fuJ Eb a W (i + 1) = jnW (fuJ Eb a W i) a i (Eb i) := if_pos h
theorem fu_n {Eb : Nat → Nat} {a i : Nat} {W : WB} (h : ¬ (i ≠ a ∧ Eb i ≠ 0)) : fuJ Eb a W (i + 1) = fuJ Eb a W i := if_neg h
theorem jn_T {W : WB} {a b v : Nat} : (jnW W a b v).1 = W.1 := by
  unfold jnW
  by_cases h0 : W.2.2 a b = 0
  · rw [if_pos h0]
  · rw [if_neg h0]
    by_cases h1 : W.2.2 a b = v
    · rw [if_pos h1]
    · rw [if_neg h1]
theorem jn_E {W : WB} {a b v x y : Nat} (h : ¬ ((x = a ∧ y = b) ∨ (x = b ∧ y = a))) : (jnW W a b v).2.2 x y = W.2.2 x y := by
  have st : ∀ u, stE W.2.2 a b u x y = W.2.2 x y := fun u => if_neg h
  unfold jnW
  by_cases h0 : W.2.2 a b = 0
  · rw [if_pos h0]
    exact st _
  · rw [if_neg h0]
    by_cases h1 : W.2.2 a b = v
    · rw [if_pos h1]
      exact st _
    · rw [if_neg h1]
      exact st _
theorem rm_jn {W : WB} {a i b v : Nat} (ha : a ≠ b) (hi : i ≠ b) : rmW (jnW W a i v) b = jnW (rmW W b) a i v := by
  have e : (rmW W b).2.2 a i = W.2.2 a i := if_neg (by omega)
  have st : ∀ u, (fun x y => if x = b ∨ y = b then 0 else stE W.2.2 a i u x y) = stE (rmW W b).2.2 a i u := fun u => by
    funext x y
    show (if x = b ∨ y = b then 0 else stE W.2.2 a i u x y) = stE (fun x y => if x = b ∨ y = b then 0 else W.2.2 x y) a i u x y
    unfold stE
    by_cases c : x = b ∨ y = b
    · rw [if_pos c, if_neg (by omega)]
      dsimp only
      rw [if_pos c]
    · rw [if_neg c]
      by_cases c2 : (x = a ∧ y = i) ∨ (x = i ∧ y = a)
      · rw [if_pos c2, if_pos c2]
      · rw [if_neg c2, if_neg c2]
        dsimp only
        rw [if_neg c]
  unfold jnW
  rw [e]
  by_cases h0 : W.2.2 a i = 0
  · rw [if_pos h0, if_pos h0, ← st]
    rfl
  · rw [if_neg h0, if_neg h0]
    by_cases h1 : W.2.2 a i = v
    · rw [if_pos h1, if_pos h1, ← st]
      rfl
    · rw [if_neg h1, if_neg h1, ← st]
      rfl
section FUS
variable {Eb : Nat → Nat} {a b m inp : Nat} {W : WB}
theorem fu_rm (hb : Eb b = 0) (hab : a ≠ b) : ∀ n, rmW (fuJ Eb a W n) b = fuJ Eb a (rmW W b) n
  | 0 => rfl
  | n + 1 => by
    by_cases h : n ≠ a ∧ Eb n ≠ 0
    · rw [fu_p h, fu_p h, rm_jn hab (fun z => h.2 (by rw [z]; exact hb)), fu_rm hb hab n]
    · rw [fu_n h, fu_n h, fu_rm hb hab n]
theorem fu_m (hz : ∀ i, m ≤ i → Eb i = 0) : ∀ k, fuJ Eb a W (m + k) = fuJ Eb a W m
  | 0 => rfl
  | k + 1 => by
    rw [show m + (k + 1) = (m + k) + 1 from rfl, fu_n (fun h => h.2 (hz _ (by omega)))]
    exact fu_m hz k
theorem fu_T : ∀ n, (fuJ Eb a W n).1 = W.1
  | 0 => rfl
  | n + 1 => by
    by_cases h : n ≠ a ∧ Eb n ≠ 0
    · rw [fu_p h, jn_T, fu_T n]
    · rw [fu_n h, fu_T n]
theorem fu_b (hb : Eb b = 0) (hab : a ≠ b) : ∀ n j, (fuJ Eb a W n).2.2 b j = W.2.2 b j
  | 0, _ => rfl
  | n + 1, j => by
    by_cases h : n ≠ a ∧ Eb n ≠ 0
    · have : n ≠ b := fun z => h.2 (by rw [z]; exact hb)
      rw [fu_p h, jn_E (by omega), fu_b hb hab n]
    · rw [fu_n h, fu_b hb hab n]
theorem fu_gd (g : gdW m inp W) (ha : W.1 a = true) (ht : ∀ i, i ≠ a → Eb i ≠ 0 → W.1 i = true) (h2 : ∀ i, Eb i ≤ 2) : ∀ n, gdW m inp (fuJ Eb a W n)
  | 0 => g
  | n + 1 => by
    have ih := fu_gd g ha ht h2 n
    by_cases h : n ≠ a ∧ Eb n ≠ 0
    · have := h2 n
      rw [fu_p h]
      refine gd_jn ih (by rw [fu_T]; exact ha) (by rw [fu_T]; exact ht n h.1 h.2) (fun z => h.1 z.symm) (by omega)
    · rw [fu_n h]
      exact ih
end FUS
section FUC
variable {d m inp : Nat} {N : mm_M} {W : WB}
/-- the two rows together -/
theorem or_b {s c : Int64} {i e : Nat} (hi : i < 64) (h1 : s.toBitVec.getLsbD i = decide (e = 1)) (h2 : c.toBitVec.getLsbD i = decide (e = 2)) (he : e ≤ 2) : (s ||| c).toBitVec.getLsbD i = decide (e ≠ 0) := by
  show (s.toBitVec ||| c.toBitVec).getLsbD i = _
  rw [BitVec.getLsbD_or, h1, h2]
  obtain rfl | rfl | rfl : e = 0 ∨ e = 1 ∨ e = 2 := by omega
  · rfl
  · rfl
  · rfl
set_option maxRecDepth 100000 in
theorem fc_l {a b : Nat} {p : Int32} {s c : Int64} {Eb : Nat → Nat} {W0 : WB} {N0 : mm_M} {Pp : am_Q} {X : am_X} (hX : am_K (d + 2) false nm_X10_fuse Pp X) (g : gdW m inp W0) (hb : ∀ i, i < m → s.toBitVec.getLsbD i = decide (Eb i = 1) ∧ c.toBitVec.getLsbD i = decide (Eb i = 2)) (h2 : ∀ i, Eb i ≤ 2) (ha : W0.1 a = true) (ht : ∀ i, i ≠ a → Eb i ≠ 0 → W0.1 i = true) (hP : ∀ N, cwK N0 N → cwR N m inp (fuJ Eb a W0 m) → Pp (.inl (some (aI 1))) N) : ∀ w i N, i + w = m → cwK N0 N → cwR N m inp (fuJ Eb a W0 i) → X 71 [some (aR 39), some (aI (nI a)), some (aI (nI b)), some (aJ s), none, some (aJ c), none, some (aI p), some (aI (nI i))] [] N := by
  have m60 := g.1
  have la := g.2.2.2.2.1 a ha
  intro w
  induction w with
  | zero =>
    intro i N hi hf h
    have hi : i = m := by omega
    subst hi
    refine am_run hX 6 _ _ _ _ ?_
    conv => whnf
    rw [h.1]
    refine ⟨fun _ => ?_, fun c => absurd (nI_le (by omega) (by omega)) c⟩
    conv => whnf
    exact ⟨rfl, hP N hf h⟩
  | succ w ih =>
    intro i N hi hf h
    obtain ⟨b1, b2⟩ := hb i (by omega)
    have e2 := h2 i
    have ob := or_b (by omega) b1 b2 e2
    have k124 : ∀ N', cwK N0 N' → cwR N' m inp (fuJ Eb a W0 (i + 1)) → X 124 [some (aR 39), some (aI (nI a)), some (aI (nI b)), some (aJ s), none, some (aJ c), none, some (aI p), some (aI (nI i))] [] N' := fun N' f' h' => by
      refine am_run hX 2 _ _ _ _ ?_
      conv => whnf
      rw [nI_1]
      exact ih (i + 1) N' (by omega) f' h'
    refine am_run hX 4 _ _ _ _ ?_
    conv => whnf
    rw [h.1]
    refine ⟨fun c => absurd c (nI_ge (by omega) (by omega)), fun _ => ?_⟩
    refine am_run hX 3 _ _ _ _ ?_
    conv => whnf
    by_cases ea : i = a
    · refine ⟨fun _ => k124 N hf (by rw [fu_n fun z => z.1 ea]; exact h), fun c => absurd (by rw [ea]) c⟩
    · refine ⟨fun c => absurd ((nI_eq (by omega) (by omega)).mp c) ea, fun _ => ?_⟩
      refine am_run hX 10 _ _ _ _ ?_
      conv => whnf
      have key := lb_us (x := s ||| c) (i := i) (by omega)
      rw [ob] at key
      by_cases e0 : Eb i = 0
      · refine ⟨fun _ => k124 N hf (by rw [fu_n fun z => z.2 e0]; exact h), fun c => absurd (key.mpr (by rw [decide_eq_false]; exact fun z => z e0)) c⟩
      · refine ⟨fun c => absurd (key.mp c) (by rw [decide_eq_true e0]; decide), fun _ => ?_⟩
        have gi := fu_gd g ha ht h2 i
        have fin : ∀ t, t + 1 = Eb i → X 121 [some (aR 39), some (aI (nI a)), some (aI (nI b)), some (aJ s), none, some (aJ c), none, some (aI p), some (aI (nI i))] [aI (nI t), aI (nI i), aI (nI a), aR 39] N := fun t ht' => by
          refine am_run hX 1 _ _ _ _ ?_
          conv => whnf
          refine am_cq (ct_jnC (d := d) (a := a) (b := i) (t := t) h m60 (gi.2.2.2.2.2.2.2.2.1 a i) (gi.2.2.2.2.2.2.1 i a) (fun z => ea z.symm) la (by omega) (by omega)) ?_
          rintro r N' ⟨rfl, f', h'⟩
          refine ⟨none, rfl, ?_⟩
          conv => whnf
          refine k124 N' (cwK_t hf f') ?_
          rw [fu_p ⟨ea, e0⟩, ← ht']
          exact h'
        refine am_run hX 11 _ _ _ _ ?_
        conv => whnf
        have key2 := lb_us (x := c) (i := i) (by omega)
        rw [b2] at key2
        by_cases e1 : Eb i = 2
        · refine ⟨fun c => absurd (key2.mp c) (by rw [decide_eq_true e1]; decide), fun _ => ?_⟩
          refine am_run hX 2 _ _ _ _ ?_
          conv => whnf
          exact fin 1 (by omega)
        · refine ⟨fun _ => ?_, fun c => absurd (key2.mpr (decide_eq_false e1)) c⟩
          refine am_run hX 1 _ _ _ _ ?_
          conv => whnf
          exact fin 0 (by omega)
/-- what is left of two that are made one -/
def fuW (W : WB) (a b m : Nat) : WB := fuJ (W.2.2 b) a ((rmW W b).1, grw W.2.1 a (W.2.1 b), (rmW W b).2.2) m
/-- a rule's end at the class -/
def ruC (N : mm_M) (m inp : Nat) (ok : Prop) (W' : WB → Prop) : am_Q := fun r N' => (¬ ok ∧ r = .inl (some (aI 0)) ∧ N' = N) ∨ (ok ∧ r = .inl (some (aI 1)) ∧ cwF N N' ∧ N'.1 39 9 = -1 ∧ ∃ V, W' V ∧ cwR N' m inp V)
set_option maxRecDepth 100000 in
theorem ct_fuC {p q : Int32} (h : cwR N m inp W) (g : gdW m inp W) : am_M (d + 3) false nm_X10_fuse [aR 39, aI p, aI q] N (ruC N m inp (∃ a b, p = nI a ∧ q = nI b ∧ edW inp W 1 a b) (fun V => ∃ a b, p = nI a ∧ q = nI b ∧ edW inp W 1 a b ∧ V = fuW W a b m)) := by
  have m60 := g.1
  refine ⟨rfl, rfl, rfl, fun X hX => fu_c (d := d) hX h g (fun hno => ?_) (fun a b ea eb hy => ?_)⟩
  · refine am_run hX 2 _ _ _ _ ?_
    conv => whnf
    exact ⟨rfl, Or.inl ⟨hno, rfl, rfl⟩⟩
  · subst ea
    subst eb
    obtain ⟨ia, ib, hab, he⟩ := hy
    have la := g.2.2.2.2.1 a ia.1
    have lb := g.2.2.2.2.1 b ib.1
    have hB : vp_in (nI b) 60 := vp_in_nI (by omega) (by decide)
    refine am_run hX 18 _ _ _ _ ?_
    conv => whnf
    iterate 3
      refine ⟨hB, ?_⟩
      conv => whnf
    rw [nI_clamp (n := b) (by omega), h.2.2.2.1 b ib.1]
    refine am_cq (ct_rmC (d := d) h g lb) ?_
    rintro r N1 ⟨rfl, f1, f2, h1⟩
    refine ⟨none, rfl, ?_⟩
    conv => whnf
    refine am_run hX 6 _ _ _ _ ?_
    conv => whnf
    refine am_c0 (ct_grC0 (d := d + 1) (a := a) (k := W.2.1 b) (by omega)) ?_
    conv => whnf
    have g1 := gd_gr (a := a) (k := W.2.1 b) (gd_rm g ib.2)
    refine fc_l (d := d) (b := b) (Eb := W.2.2 b) (W0 := ((rmW W b).1, grw W.2.1 a (W.2.1 b), (rmW W b).2.2)) (N0 := grM N1 a (W.2.1 b)) hX g1 (fun i hi => h.2.2.2.2 b lb i (by omega)) (fun i => g.2.2.2.2.2.2.2.2.1 b i) ?_ (fun i hi hz => ?_) (fun N' f' h' => ?_) m 0 _ (by omega) cwK_r (cwR_gr h1)
    · show (if a = b then false else W.1 a) = true
      rw [if_neg (by omega)]
      exact ia.1
    · have t := (g.2.2.2.2.2.2.2.2.2.1 b i hz).2
      show (if i = b then false else W.1 i) = true
      rw [if_neg]
      · exact t
      · intro z
        rw [z, g.2.2.2.2.2.2.2.1] at hz
        exact hz rfl
    · refine Or.inr ⟨⟨a, b, rfl, rfl, ia, ib, hab, he⟩, rfl, cwF_t f1 (cwF_t cwF_gr f'.1), ?_, _, ⟨a, b, rfl, rfl, ⟨ia, ib, hab, he⟩, rfl⟩, h'⟩
      rw [f'.2]
      exact f2
end FUC
