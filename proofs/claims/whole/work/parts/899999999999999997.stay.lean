/-! DIAGRAMS: join, remove, joinAll again: which phases stay -/
theorem up_n {f : Nat → Int32} {a x : Nat} {v : Int32} (h : x ≠ a) : upd f a v x = f x := by
  unfold upd
  rw [if_neg h]
section PV0
variable {d m inp : Nat} {N : mm_M} {W : WB} {v : Int64} {S : Nat → Bool}
set_option maxRecDepth 100000 in
theorem ct_jnC2 {a b t : Nat} (h : cwR N m inp W) (m60 : m ≤ 60) (e2 : W.2.2 a b ≤ 2) (es : W.2.2 b a = W.2.2 a b) (hab : a ≠ b) (ha : a < m) (hb : b < m) (ht : t < 2) : am_M (d + 2) false nm_X10_join [aR 39, aI (nI a), aI (nI b), aI (nI t)] N (fun r N' => r = .inl none ∧ cwK N N' ∧ cwR N' m inp (jnW W a b (t + 1)) ∧ ∀ x, x ≠ min a b → N'.1 42 x = N.1 42 x) := by
  refine ⟨rfl, rfl, rfl, fun X hX => jc_a (d := d) hX h m60 rfl e2 ha (by omega) ht ?_⟩
  by_cases h0 : W.2.2 a b = 0
  · rw [jn_0 h0] at hX
    rw [h0]
    refine am_run hX 8 _ _ _ _ ?_
    conv => whnf
    refine ⟨fun c => absurd rfl c, fun _ => ?_⟩
    conv => whnf
    refine am_c0 (ct_seC0 (d := d) (a := a) (b := b) (v := t + 1) (by omega) (by omega) (by omega)) ?_
    conv => whnf
    refine am_run hX 1 _ _ _ _ ?_
    conv => whnf
    exact ⟨trivial, rfl, cwK_se, cwR_se h hab (by omega) (by omega), fun _ _ => rfl⟩
  · refine am_run hX 2 _ _ _ _ ?_
    conv => whnf
    refine ⟨fun _ => ?_, fun c => absurd (nI_ne0 (by omega) (by omega)) c⟩
    by_cases h1 : W.2.2 a b = t + 1
    · rw [jn_e h0 h1] at hX
      refine am_run hX 3 _ _ _ _ ?_
      conv => whnf
      rw [h1]
      refine ⟨fun _ => ?_, fun c => absurd rfl c⟩
      refine am_run hX 2 _ _ _ _ ?_
      conv => whnf
      obtain rfl | rfl : t = 0 ∨ t = 1 := by omega
      · refine ⟨fun _ => ?_, fun c => absurd rfl c⟩
        refine am_run hX 1 _ _ _ _ ?_
        conv => whnf
        refine ⟨trivial, rfl, cwK_r, ?_, fun _ _ => rfl⟩
        rw [if_pos rfl, stE_s h1 (by rw [es]; exact h1)]
        exact h
      · refine ⟨fun c => absurd c (by decide), fun _ => ?_⟩
        refine am_run hX 6 _ _ _ _ ?_
        conv => whnf
        refine am_c0 (ct_seC0 (d := d) (a := a) (b := b) (v := 0) (by omega) (by omega) (by omega)) ?_
        conv => whnf
        exact ⟨trivial, rfl, cwK_se, cwR_se h hab (by omega) (by omega), fun _ _ => rfl⟩
    · rw [jn_n h0 h1] at hX
      refine am_run hX 3 _ _ _ _ ?_
      conv => whnf
      refine ⟨fun c => absurd ((nI_eq (by omega) (by omega)).mp c) h1, fun _ => ?_⟩
      refine am_run hX 12 _ _ _ _ ?_
      conv => whnf
      refine am_c0 (ct_seC0 (d := d) (a := a) (b := b) (v := 1) (by omega) (by omega) (by omega)) ?_
      conv => whnf
      rw [nI_min (by omega) (by omega)]
      refine am_c0 (ct_grC0 (d := d) (a := min a b) (k := 4) (by omega)) ?_
      conv => whnf
      refine am_run hX 1 _ _ _ _ ?_
      conv => whnf
      exact ⟨trivial, rfl, cwK_t cwK_se cwK_gr, cwR_gr (cwR_se h hab (by omega) (by omega)), fun x hx => up_n hx⟩
set_option maxRecDepth 100000 in
theorem wrc_l2 {a : Nat} {Pp : am_Q} {X : am_X} {N0 : mm_M} (hX : am_K (d + 1) false nm_X10_remove Pp X) (g : gdW m inp W) (ha : a < m) (hK : ∀ N l2, (cwK N0 N ∧ N.1 42 = N0.1 42) → cwR N m inp (W.1, W.2.1, rmE W.2.2 a m) → X 32 [some (aR 39), some (aI (nI a)), l2] [] N) : ∀ w i N, i + w = m → (cwK N0 N ∧ N.1 42 = N0.1 42) → cwR N m inp (W.1, W.2.1, rmE W.2.2 a i) → X 2 [some (aR 39), some (aI (nI a)), some (aI (nI i))] [] N := by
  have m60 := g.1
  intro w
  induction w with
  | zero =>
    intro i N hi hf h
    have hi : i = m := by omega
    subst hi
    refine am_run hX 4 _ _ _ _ ?_
    conv => whnf
    rw [h.1]
    refine ⟨fun _ => ?_, fun c => absurd (nI_le (by omega) (by omega)) c⟩
    exact hK N _ hf h
  | succ w ih =>
    intro i N hi hf h
    have e2 : rmE W.2.2 a i a i ≤ 2 := by
      unfold rmE
      have := g.2.2.2.2.2.2.2.2.1 a i
      by_cases e : (a = a ∧ i < i) ∨ (i = a ∧ a < i)
      · rw [if_pos e]; omega
      · rw [if_neg e]; exact this
    have k := ct_ekC (d := d) (i := a) (j := i) h m60 e2 ha (by omega)
    refine am_run hX 4 _ _ _ _ ?_
    conv => whnf
    rw [h.1]
    refine ⟨fun c => absurd c (nI_ge (by omega) (by omega)), fun _ => ?_⟩
    refine am_run hX 5 _ _ _ _ ?_
    conv => whnf
    refine am_c1 k ?_
    conv => whnf
    have k26 : ∀ N', (cwK N0 N' ∧ N'.1 42 = N0.1 42) → cwR N' m inp (W.1, W.2.1, rmE W.2.2 a (i + 1)) → X 26 [some (aR 39), some (aI (nI a)), some (aI (nI i))] [] N' := fun N' f' h' => by
      refine am_run hX 2 _ _ _ _ ?_
      conv => whnf
      rw [nI_1]
      exact ih (i + 1) N' (by omega) f' h'
    by_cases h0 : rmE W.2.2 a i a i = 0
    · have key := k26 N hf (by rw [rmE_z h0 (g.2.2.2.2.2.2.1 a i)]; exact h)
      exact ⟨fun _ => key, fun c => absurd (by show nI (rmE W.2.2 a i a i) = 0; rw [h0]; rfl) c⟩
    · have hai : a ≠ i := fun z => by
        apply h0
        unfold rmE
        by_cases e : (a = a ∧ i < i) ∨ (i = a ∧ a < i)
        · rw [if_pos e]
        · rw [if_neg e, ← z]
          exact g.2.2.2.2.2.2.2.1 a
      show (nI (rmE W.2.2 a i a i) = 0 → _) ∧ _
      refine ⟨fun c => absurd c (nI_ne0 (by omega) (by omega)), fun _ => ?_⟩
      refine am_run hX 5 _ _ _ _ ?_
      conv => whnf
      refine am_c0 (ct_seC0 (d := d) (a := a) (b := i) (v := 0) (by omega) (by omega) (by omega)) ?_
      conv => whnf
      refine k26 _ ⟨cwK_t hf.1 cwK_se, hf.2⟩ ?_
      have := cwR_se (a := a) (b := i) (v := 0) h hai (by omega) (by omega)
      rw [← rmE_s]
      exact this
set_option maxRecDepth 100000 in
theorem ct_rmC2 {a : Nat} (h : cwR N m inp W) (g : gdW m inp W) (ha : a < m) : am_M (d + 2) false nm_X10_remove [aR 39, aI (nI a)] N (fun r N' => r = .inl none ∧ cwF N N' ∧ N'.1 39 9 = -1 ∧ cwR N' m inp (rmW W a) ∧ N'.1 42 = N.1 42) := by
  have m60 := g.1
  refine ⟨rfl, rfl, rfl, fun X hX => am_run hX 2 _ _ _ _ ?_⟩
  conv => whnf
  refine wrc_l2 (d := d) (N0 := N) hX g ha (fun N' l2 hf h' => ?_) m 0 N (by omega) ⟨cwK_r, rfl⟩ (by rw [rmE_0]; exact h)
  refine am_run hX 20 _ _ _ _ ?_
  conv => whnf
  obtain ⟨h1, h2, h3, h4, h5⟩ := h'
  refine ⟨trivial, rfl, cwF_t hf.1.1 ?_, rfl, ⟨h1, h2, fun i hi => ?_, fun i hi => ?_, fun i hi j hj => ?_⟩, hf.2⟩
  · refine ⟨fun k c1 _ => ?_, fun k c1 _ _ => ?_, fun j c => ?_, fun j c => ?_⟩
    · simp [mm_i, mm_l, c1]
    · simp [mm_i, mm_l, c1]
    · show upd (N'.1 39) 9 (-1) j = N'.1 39 j
      unfold upd
      rw [if_neg c]
    · show vp_updL (N'.2 39) 10 _ j = N'.2 39 j
      unfold vp_updL
      rw [if_neg c]
  · show (opb false (N'.2 39 10) a).toBitVec.getLsbD i = if i = a then false else W.1 i
    rw [opb_b (by omega) hi, h3 i hi]
  · have hi : (if i = a then false else W.1 i) = true := hi
    by_cases e : i = a
    · rw [if_pos e] at hi
      exact absurd hi (by decide)
    · rw [if_neg e] at hi
      exact h4 i hi
  · have := h5 i hi j hj
    rw [show (W.1, W.2.1, rmE W.2.2 a m).2.2 = (rmW W a).2.2 from rmE_m g] at this
    exact this
set_option maxRecDepth 100000 in
theorem ja_l2 {i : Nat} {N0 : mm_M} {Pp : am_Q} {X : am_X} (hX : am_K (d + 2) false nm_X10_joinAll Pp X) (g : gdW m inp W) (hi : W.1 i = true) (hs : ∀ j, S j = true → W.1 j = true ∧ j ≠ i) (hv : ∀ i, i < 64 → v.toBitVec.getLsbD i = S i) (hP : ∀ N, (cwK N0 N ∧ ∀ x, x ≠ i → S x = false → N.1 42 x = N0.1 42 x) → cwR N m inp (jaW W i S m) → Pp (.inl none) N) : ∀ w j N, j + w = m → (cwK N0 N ∧ ∀ x, x ≠ i → S x = false → N.1 42 x = N0.1 42 x) → cwR N m inp (jaW W i S j) → X 3 [some (aR 39), some (aI (nI i)), some (aJ v), none, some (aI (nI j))] [] N := by
  have m60 := g.1
  have li := g.2.2.2.2.1 i hi
  intro w
  induction w with
  | zero =>
    intro j N hj hf h
    have hj : j = m := by omega
    subst hj
    refine am_run hX 5 _ _ _ _ ?_
    conv => whnf
    rw [h.1]
    refine ⟨fun _ => ?_, fun c => absurd (nI_le (by omega) (by omega)) c⟩
    conv => whnf
    exact ⟨trivial, hP N hf h⟩
  | succ w ih =>
    intro j N hj hf h
    have key := lb_us (x := v) (i := j) (by omega)
    rw [hv j (by omega)] at key
    have nx : ∀ N', (cwK N0 N' ∧ ∀ x, x ≠ i → S x = false → N'.1 42 x = N0.1 42 x) → cwR N' m inp (jaW W i S (j + 1)) → X 31 [some (aR 39), some (aI (nI i)), some (aJ v), none, some (aI (nI j))] [] N' := fun N' f' h' => by
      refine am_run hX 2 _ _ _ _ ?_
      conv => whnf
      rw [nI_1]
      exact ih (j + 1) N' (by omega) f' h'
    refine am_run hX 4 _ _ _ _ ?_
    conv => whnf
    rw [h.1]
    refine ⟨fun c => absurd c (nI_ge (by omega) (by omega)), fun _ => ?_⟩
    refine am_run hX 8 _ _ _ _ ?_
    conv => whnf
    cases hsj : S j with
    | false =>
      rw [hsj] at key
      exact ⟨fun _ => nx N hf (by rw [ja_n (by rw [hsj]; decide)]; exact h), fun c => absurd (key.mpr rfl) c⟩
    | true =>
      rw [hsj] at key
      refine ⟨fun c => absurd (key.mp c) (by decide), fun _ => ?_⟩
      have gj := ja_gd g hi hs j
      refine am_run hX 5 _ _ _ _ ?_
      conv => whnf
      refine am_cq (ct_jnC2 (d := d) (a := i) (b := j) (t := 1) h m60 (gj.2.2.2.2.2.2.2.2.1 i j) (gj.2.2.2.2.2.2.1 j i) (fun z => (hs j hsj).2 z.symm) li (by omega) (by decide)) ?_
      rintro r N' ⟨rfl, f', h', q'⟩
      refine ⟨none, rfl, ?_⟩
      conv => whnf
      refine nx N' ⟨cwK_t hf.1 f', fun x h1 h2 => ?_⟩ (by rw [ja_p hsj]; exact h')
      have xj : x ≠ j := fun z => by
        rw [z, hsj] at h2
        exact absurd h2 (by decide)
      rw [q' x (by omega)]
      exact hf.2 x h1 h2
set_option maxRecDepth 100000 in
theorem ct_jaC2 {i : Nat} (h : cwR N m inp W) (g : gdW m inp W) (hi : W.1 i = true) (hs : ∀ j, S j = true → W.1 j = true ∧ j ≠ i) (hv : ∀ i, i < 64 → v.toBitVec.getLsbD i = S i) : am_M (d + 3) false nm_X10_joinAll [aR 39, aI (nI i), aJ v] N (fun r N' => r = .inl none ∧ cwK N N' ∧ cwR N' m inp (jaW W i S m) ∧ ∀ x, x ≠ i → S x = false → N'.1 42 x = N.1 42 x) := by
  refine ⟨rfl, rfl, rfl, fun X hX => am_run hX 2 _ _ _ _ ?_⟩
  conv => whnf
  exact ja_l2 (d := d) (N0 := N) hX g hi hs hv (fun N' f' h' => ⟨rfl, f'.1, h', f'.2⟩) m 0 N (by omega) ⟨cwK_r, fun _ _ _ => rfl⟩ h
end PV0
