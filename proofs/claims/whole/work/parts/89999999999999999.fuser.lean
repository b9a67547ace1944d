/-! DIAGRAMS: the reference's fuse; how many EDGES -/
section FUR
variable {d m inp : Nat} {N : mm_M} {W : WB}
/-- a rule's end at the reference -/
def ruR (N : mm_M) (inp : Nat) (ok : Prop) (W' : WB → Prop) : am_Q := fun r N' => (¬ ok ∧ r = .inl (some (aI 0)) ∧ N' = N) ∨ (ok ∧ r = .inl (some (aI 1)) ∧ rwF N N' ∧ ∃ V, W' V ∧ rwR N' inp V)
set_option maxRecDepth 100000 in
theorem fr_l {a b : Nat} {Eb : Nat → Nat} {W0 : WB} {N0 : mm_M} {Pp : am_Q} {X : am_X} (hX : am_K (d + 2) false nm_X12_fuse Pp X) (g : gdW m inp W0) (h2 : ∀ i, Eb i ≤ 2) (ha : W0.1 a = true) (lb : b < 60) (hab : a ≠ b) (hbb : Eb b = 0) (ht : ∀ i, i ≠ a → Eb i ≠ 0 → W0.1 i = true) (hE : ∀ j, W0.2.2 b j = if j = a then 0 else Eb j) (hK : ∀ N, rwF N0 N → rwR N inp (fuJ Eb a W0 60) → X 86 [some (aR 108), some (aI (nI a)), some (aI (nI b)), some (aI (nI 60))] [] N) : ∀ w i N, i + w = 60 → rwF N0 N → rwR N inp (fuJ Eb a W0 i) → X 53 [some (aR 108), some (aI (nI a)), some (aI (nI b)), some (aI (nI i))] [] N := by
  have m60 := g.1
  have la := g.2.2.2.2.1 a ha
  intro w
  induction w with
  | zero =>
    intro i N hi hf h
    have hi : i = 60 := by omega
    subst hi
    refine am_run hX 3 _ _ _ _ ?_
    conv => whnf
    refine ⟨fun _ => hK N hf h, fun c => absurd (by decide) c⟩
  | succ w ih =>
    intro i N hi hf h
    have ev : (fuJ Eb a W0 i).2.2 b i = if i = a then 0 else Eb i := by rw [fu_b hbb hab, hE]
    have k := ct_ekR (d := d + 1) (i := b) (j := i) h lb (by omega)
    rw [ev] at k
    have k80 : ∀ N', rwF N0 N' → rwR N' inp (fuJ Eb a W0 (i + 1)) → X 80 [some (aR 108), some (aI (nI a)), some (aI (nI b)), some (aI (nI i))] [] N' := fun N' f' h' => by
      refine am_run hX 2 _ _ _ _ ?_
      conv => whnf
      rw [nI_1]
      exact ih (i + 1) N' (by omega) f' h'
    refine am_run hX 3 _ _ _ _ ?_
    conv => whnf
    refine ⟨fun c => absurd c (nI_ge (a := i) (b := 60) (by omega) (by decide)), fun _ => ?_⟩
    refine am_run hX 5 _ _ _ _ ?_
    conv => whnf
    refine am_c1 k ?_
    have e2 := h2 i
    by_cases hz : i ≠ a ∧ Eb i ≠ 0
    · rw [if_neg hz.1] at k ⊢
      conv => whnf
      refine ⟨fun c => absurd c (nI_ne0 (by omega) (by omega)), fun _ => ?_⟩
      refine am_run hX 8 _ _ _ _ ?_
      conv => whnf
      refine am_c1 k ?_
      conv => whnf
      have gi := fu_gd g ha ht h2 i
      refine am_cq (ct_jnR (d := d) (a := a) (b := i) (v := Eb i) h (gi.2.2.2.2.2.2.2.2.1 a i) (by omega) (by omega) (by omega)) ?_
      rintro r N' ⟨rfl, f', h'⟩
      refine ⟨none, rfl, ?_⟩
      conv => whnf
      refine k80 N' (rwF_t hf f') ?_
      rw [fu_p hz]
      exact h'
    · have z0 : (if i = a then 0 else Eb i) = 0 := by
        by_cases e : i = a
        · rw [if_pos e]
        · rw [if_neg e]
          exact Decidable.byContradiction fun y => hz ⟨e, y⟩
      rw [z0]
      conv => whnf
      refine ⟨fun _ => k80 N hf (by rw [fu_n hz]; exact h), fun c => absurd rfl c⟩
theorem fuW_e {a b : Nat} (g : gdW m inp W) (hab : a ≠ b) (lb : b < m) : rmW (fuJ (W.2.2 b) a (W.1, grw W.2.1 a (W.2.1 b), stE W.2.2 a b 0) 60) b = fuW W a b m := by
  rw [fu_rm (g.2.2.2.2.2.2.2.1 b) hab]
  have e : rmW (W.1, grw W.2.1 a (W.2.1 b), stE W.2.2 a b 0) b = ((rmW W b).1, grw W.2.1 a (W.2.1 b), (rmW W b).2.2) := by
    refine Prod.ext rfl (Prod.ext rfl ?_)
    funext x y
    show (if x = b ∨ y = b then 0 else stE W.2.2 a b 0 x y) = if x = b ∨ y = b then 0 else W.2.2 x y
    by_cases c : x = b ∨ y = b
    · rw [if_pos c, if_pos c]
    · rw [if_neg c, if_neg c]
      unfold stE
      rw [if_neg (by omega)]
  rw [e]
  have m60 := g.1
  obtain ⟨k, hk⟩ : ∃ k, 60 = m + k := ⟨60 - m, by omega⟩
  rw [hk]
  refine fu_m (fun i hi => ?_) k
  apply Decidable.byContradiction
  intro z
  have := g.2.2.2.2.1 i (g.2.2.2.2.2.2.2.2.2.1 b i z).2
  omega
set_option maxRecDepth 100000 in
theorem ct_fuR {p q : Int32} (h : rwR N inp W) (g : gdW m inp W) : am_M (d + 3) false nm_X12_fuse [aR 108, aI p, aI q] N (ruR N inp (∃ a b, p = nI a ∧ q = nI b ∧ edW inp W 1 a b) (fun V => ∃ a b, p = nI a ∧ q = nI b ∧ edW inp W 1 a b ∧ V = fuW W a b m)) := by
  have m60 := g.1
  refine ⟨rfl, rfl, rfl, fun X hX => fu_r (d := d) hX h g (fun hno => ?_) (fun a b ea eb hy => ?_)⟩
  · refine am_run hX 2 _ _ _ _ ?_
    conv => whnf
    exact ⟨rfl, Or.inl ⟨hno, rfl, rfl⟩⟩
  · subst ea
    subst eb
    obtain ⟨ia, ib, hab, he⟩ := hy
    have la := g.2.2.2.2.1 a ia.1
    have lb := g.2.2.2.2.1 b ib.1
    have hB : vp_in (nI b) 60 := vp_in_nI (by omega) (by decide)
    refine am_run hX 14 _ _ _ _ ?_
    conv => whnf
    refine ⟨hB, ?_⟩
    conv => whnf
    rw [nI_clamp (n := b) (by omega), h.2.2.2.1 b ib.1]
    refine am_c0 (ct_grR0 (d := d + 1) (a := a) (k := W.2.1 b) (by omega)) ?_
    conv => whnf
    refine am_c0 (ct_seR0 (d := d + 1) (a := a) (b := b) (v := 0) (by omega) (by omega)) ?_
    conv => whnf
    have h0 := rwR_se (a := a) (b := b) (v := 0) (rwR_gr (a := a) (k := W.2.1 b) h) (by omega) (by omega)
    have g0 : gdW m inp (W.1, grw W.2.1 a (W.2.1 b), stE W.2.2 a b 0) := by
      obtain ⟨g1, g2, g3, g4, g5, g6, g7, g8, g9, g10, g11⟩ := gd_gr (a := a) (k := W.2.1 b) g
      refine ⟨g1, g2, g3, g4, g5, g6, fun i j => ?_, fun i => ?_, fun i j => ?_, fun i j hz => ?_, g11⟩
      · show stE W.2.2 a b 0 i j = stE W.2.2 a b 0 j i
        unfold stE
        by_cases e : (i = a ∧ j = b) ∨ (i = b ∧ j = a)
        · rw [if_pos e, if_pos (by omega)]
        · rw [if_neg e, if_neg (by omega)]
          exact g7 i j
      · show stE W.2.2 a b 0 i i = 0
        unfold stE
        rw [if_neg (by omega)]
        exact g8 i
      · show stE W.2.2 a b 0 i j ≤ 2
        unfold stE
        by_cases e : (i = a ∧ j = b) ∨ (i = b ∧ j = a)
        · rw [if_pos e]
          decide
        · rw [if_neg e]
          exact g9 i j
      · have hz : stE W.2.2 a b 0 i j ≠ 0 := hz
        unfold stE at hz
        by_cases e : (i = a ∧ j = b) ∨ (i = b ∧ j = a)
        · rw [if_pos e] at hz
          exact absurd rfl hz
        · rw [if_neg e] at hz
          exact g10 i j hz
    refine fr_l (d := d) (b := b) (Eb := W.2.2 b) (W0 := (W.1, grw W.2.1 a (W.2.1 b), stE W.2.2 a b 0)) (N0 := N) hX g0 (fun i => g.2.2.2.2.2.2.2.2.1 b i) ia.1 (by omega) (by omega) (g.2.2.2.2.2.2.2.1 b) (fun i _ hz => (g.2.2.2.2.2.2.2.2.2.1 b i hz).2) (fun j => ?_) (fun N' f' h' => ?_) 60 0 _ (by omega) (rwF_t rwF_gr rwF_se) h0
    · show stE W.2.2 a b 0 b j = if j = a then 0 else W.2.2 b j
      unfold stE
      by_cases e : j = a
      · rw [if_pos e, if_pos (by omega)]
      · rw [if_neg e, if_neg (by omega)]
    · refine am_run hX 5 _ _ _ _ ?_
      conv => whnf
      refine am_cq (ct_rmR (d := d) (a := b) h' (by omega)) ?_
      rintro r N2 ⟨rfl, f2, h2⟩
      refine ⟨none, rfl, ?_⟩
      conv => whnf
      rw [fuW_e g (by omega) lb] at h2
      exact ⟨rfl, Or.inr ⟨⟨a, b, rfl, rfl, ia, ib, hab, he⟩, rfl, rwF_t f' f2, _, ⟨a, b, rfl, rfl, ⟨ia, ib, hab, he⟩, rfl⟩, h2⟩⟩
/-- how many EDGES -/
def dgW (W : WB) (a : Nat) : Nat := sm (fun j => if W.2.2 a j = 0 then 0 else 1) 60
set_option maxRecDepth 100000 in
theorem wer_l {Pp : am_Q} {X : am_X} {i : Nat} (hX : am_K (d + 1) false nm_X12_edgesOf Pp X) (h : rwR N inp W) (h2 : ∀ j, W.2.2 i j ≤ 2) (hi : i < 60) (hK : ∀ l3, X 33 [some (aR 108), some (aI (nI i)), some (aI (nI (dgW W i))), l3] [] N) : ∀ (k j : Nat), j + k = 60 → X 4 [some (aR 108), some (aI (nI i)), some (aI (nI (sm (fun j => if W.2.2 i j = 0 then 0 else 1) j))), some (aI (nI j))] [] N := by
  intro k
  induction k with
  | zero =>
    intro j hj
    have hj : j = 60 := by omega
    subst hj
    refine am_run hX 3 _ _ _ _ ?_
    conv => whnf
    exact ⟨fun _ => hK _, fun c => absurd (by decide) c⟩
  | succ k ih =>
    intro j hj
    have ih := ih (j + 1) (by omega)
    have e1 : sm (fun j => if W.2.2 i j = 0 then 0 else 1) (j + 1) = sm (fun j => if W.2.2 i j = 0 then 0 else 1) j + (if W.2.2 i j = 0 then 0 else 1) := rfl
    rw [e1] at ih
    refine am_run hX 3 _ _ _ _ ?_
    conv => whnf
    refine ⟨fun c => absurd c (nI_ge (b := 60) (by omega) (by decide)), fun _ => ?_⟩
    refine am_run hX 6 _ _ _ _ ?_
    conv => whnf
    refine am_c1 (ct_ekR (d := d) h hi (by omega)) ?_
    conv => whnf
    have e2 := h2 j
    by_cases q : W.2.2 i j = 0
    · rw [if_pos q] at ih
      rw [q]
      refine ⟨fun _ => ?_, fun z => absurd rfl z⟩
      refine am_run hX 5 _ _ _ _ ?_
      conv => whnf
      rw [nI_1, show nI (sm (fun j => if W.2.2 i j = 0 then 0 else 1) j) + 0 = nI (sm (fun j => if W.2.2 i j = 0 then 0 else 1) j + 0) from nI_add _ 0]
      exact ih
    · rw [if_neg q] at ih
      refine ⟨fun z => absurd ((nI_eq (b := 0) (by omega) (by decide)).mp z) q, fun _ => ?_⟩
      refine am_run hX 6 _ _ _ _ ?_
      conv => whnf
      rw [nI_1, nI_1]
      exact ih
set_option maxRecDepth 100000 in
theorem ct_dgR {i : Nat} (h : rwR N inp W) (h2 : ∀ j, W.2.2 i j ≤ 2) (hi : i < 60) : am_M (d + 2) false nm_X12_edgesOf [aR 108, aI (nI i)] N (am_q1 (aI (nI (dgW W i))) N) := by
  refine ⟨rfl, rfl, rfl, fun X hX => am_run hX 4 _ _ _ _ ?_⟩
  conv => whnf
  refine wer_l (d := d) hX h h2 hi (fun l3 => ?_) 60 0 (by omega)
  refine am_run hX 2 _ _ _ _ ?_
  conv => whnf
  exact ⟨trivial, rfl, rfl⟩
theorem dg_c {i : Nat} (h : cwR N m inp W) (g : gdW m inp W) (hi : i < m) : lbc (N.2 40 i ||| N.2 41 i) = nI (dgW W i) := by
  have m60 := g.1
  have z : ∀ j, 60 ≤ j → (if W.2.2 i j = 0 then 0 else 1) = 0 := fun j hj => if_pos (by
    apply Decidable.byContradiction
    intro y
    have := g.2.2.2.2.1 j (g.2.2.2.2.2.2.2.2.2.1 i j y).2
    omega)
  rw [lbc_p, pcn_sm, sm_e (g := fun j => if W.2.2 i j = 0 then 0 else 1) 64 (fun j hj => by
    have ⟨g1, g2⟩ := h.2.2.2.2 i hi j hj
    have e2 := g.2.2.2.2.2.2.2.2.1 i j
    rw [bt_tb _ hj, Int64.toBitVec_or, BitVec.getLsbD_or, g1, g2]
    rcases (by omega : W.2.2 i j = 0 ∨ W.2.2 i j = 1 ∨ W.2.2 i j = 2) with q | q | q <;> rw [q] <;> rfl)]
  congr 1
  show sm (fun j => if W.2.2 i j = 0 then 0 else 1) 60 + (if W.2.2 i 60 = 0 then 0 else 1) + (if W.2.2 i 61 = 0 then 0 else 1) + (if W.2.2 i 62 = 0 then 0 else 1) + (if W.2.2 i 63 = 0 then 0 else 1) = _
  rw [z 60 (by decide), z 61 (by decide), z 62 (by decide), z 63 (by decide)]
  simp only [Nat.add_zero]
  rfl
end FUR
