/-! ROUTE: the reference's findWay -/
section RTF
variable {d : Nat} {M : mm_M} {c W : Nat} {l : List bk_X} {Lk : Nat → Nat → Bool}
/-- the search, all links of those ahead of H and the first L of H's gone over -/
def seI (N : mm_M) (W : Nat) (l : List bk_X) (Lk : Nat → Nat → Bool) (n : Nat) (T : Nat → List Nat × Nat) (fr yb : Nat → Nat) (H L : Nat) : Prop := rbT (st := rtS Lk (rtPp l) l.length) (V := rtV Lk) n T fr yb (rt0 Lk (rtPp l) l.length W) ∧ wyE N W l.length n T fr yb ∧ (∀ i, 0 < i → i < n → fr i < H ∨ (fr i = H ∧ yb i < L)) ∧ (∀ j e, j < n → (j < H ∨ (j = H ∧ e < L)) → rtV Lk e → ∃ i, i < n ∧ rtR (T i) (rtS Lk (rtPp l) l.length e (T j)) ∧ (0 < i → fr i < j ∨ (fr i = j ∧ yb i ≤ e))) ∧ ∀ j, j < H → (T j).2 ≠ l.length
theorem wyE_f {M N : mm_M} {S n : Nat} {T : Nat → List Nat × Nat} {fr yb : Nat → Nat} (h : rbF M N) (g : wyE M W S n T fr yb) : wyE N W S n T fr yb := by
  unfold wyE at g ⊢
  rw [h.1 108 (by decide), h.1 197 (by decide), h.1 198 (by decide), h.1 199 (by decide), h.1 200 (by decide), h.1 201 (by decide)]
  exact g
theorem seI_f {M N : mm_M} {n H L : Nat} {T : Nat → List Nat × Nat} {fr yb : Nat → Nat} (h : rbF M N) (g : seI M W l Lk n T fr yb H L) : seI N W l Lk n T fr yb H L := ⟨g.1, wyE_f h g.2.1, g.2.2⟩
/-- that link is not there -/
theorem seI_n {N : mm_M} {n H L : Nat} {T : Nat → List Nat × Nat} {fr yb : Nat → Nat} (g : seI N W l Lk n T fr yb H L) (hv : ¬ rtV Lk L) : seI N W l Lk n T fr yb H (L + 1) := by
  obtain ⟨g1, g2, g3, g4, g5⟩ := g
  refine ⟨g1, g2, fun i a b => ?_, fun j e a b c => ?_, g5⟩
  · have := g3 i a b
    omega
  · by_cases q : j = H ∧ e = L
    · rw [q.2] at c
      exact absurd c hv
    · exact g4 j e a (by omega) c
/-- there already, at least as good -/
theorem seI_o {N : mm_M} {n H L i : Nat} {T : Nat → List Nat × Nat} {fr yb : Nat → Nat} (g : seI N W l Lk n T fr yb H L) (hi : i < n) (hr : rtR (T i) (rtS Lk (rtPp l) l.length L (T H))) : seI N W l Lk n T fr yb H (L + 1) := by
  obtain ⟨g1, g2, g3, g4, g5⟩ := g
  refine ⟨g1, g2, fun i a b => ?_, fun j e a b c => ?_, g5⟩
  · have := g3 i a b
    omega
  · by_cases q : j = H ∧ e = L
    · obtain ⟨q1, q2⟩ := q
      subst q1
      subst q2
      refine ⟨i, hi, hr, fun h0 => ?_⟩
      have := g3 i h0 hi
      omega
    · exact g4 j e a (by omega) c
/-- new -/
theorem seI_w {N N' : mm_M} {n H L : Nat} {T : Nat → List Nat × Nat} {fr yb : Nat → Nat} (g : seI N W l Lk n T fr yb H L) (hv : rtV Lk L) (hH : H < n) (hE : wyE N' W l.length (n + 1) (upS T n (rtS Lk (rtPp l) l.length L (T H))) (upN fr n H) (upN yb n L)) : seI N' W l Lk (n + 1) (upS T n (rtS Lk (rtPp l) l.length L (T H))) (upN fr n H) (upN yb n L) H (L + 1) := by
  obtain ⟨⟨c1, c2, c3, c4⟩, g2, g3, g4, g5⟩ := g
  have Un : ∀ k, upS T n k n = k := fun k => if_pos rfl
  have Uo : ∀ k p, p < n → upS T n k p = T p := fun k p hp => if_neg (by omega)
  have Fn : ∀ f v, upN f n v n = v := fun f v => if_pos rfl
  have Fo : ∀ f v p, p < n → upN f n v p = f p := fun f v p hp => if_neg (by omega)
  refine ⟨⟨by omega, by rw [Uo _ 0 c1]; exact c2, fun i i0 hi => ?_, fun i j i0 hij hj => ?_⟩, hE, fun i i0 hi => ?_, fun j e hj hl hve => ?_, fun j hj => ?_⟩
  · by_cases q : i = n
    · subst q
      rw [Fn, Fn, Un, Uo _ H hH]
      exact ⟨hH, hv, rfl⟩
    · obtain ⟨b1, b2, b3⟩ := c3 i i0 (by omega)
      rw [Fo _ _ i (by omega), Fo _ _ i (by omega), Uo _ i (by omega), Uo _ (fr i) (by omega)]
      exact ⟨b1, b2, b3⟩
  · rw [Fo _ _ i (by omega), Fo _ _ i (by omega)]
    by_cases q : j = n
    · subst q
      rw [Fn, Fn]
      exact g3 i i0 (by omega)
    · rw [Fo _ _ j (by omega), Fo _ _ j (by omega)]
      exact c4 i j i0 hij (by omega)
  · by_cases q : i = n
    · subst q
      rw [Fn, Fn]
      omega
    · rw [Fo _ _ i (by omega), Fo _ _ i (by omega)]
      have := g3 i i0 (by omega)
      omega
  · have jn : j < n := by omega
    rw [Uo _ j jn]
    by_cases q : j = H ∧ e = L
    · obtain ⟨q1, q2⟩ := q
      subst q1
      subst q2
      refine ⟨n, by omega, by rw [Un]; exact ⟨rfl, Nat.le_refl _⟩, fun _ => Or.inr ?_⟩
      rw [Fn, Fn]
      exact ⟨rfl, Nat.le_refl _⟩
    · obtain ⟨i, b1, b2, b3⟩ := g4 j e jn (by omega) hve
      refine ⟨i, by omega, by rw [Uo _ i b1]; exact b2, fun h0 => ?_⟩
      rw [Fo _ _ i b1, Fo _ _ i b1]
      exact b3 h0
  · rw [Uo _ j (by omega)]
    exact g5 j hj
set_option maxRecDepth 200000 in
theorem fy_l {P : am_Q} {X : am_X} {H : Nat} (hX : am_K (d + 5) false nm_X12_findWay P X) (h : rtH M c W l Lk) (hK : ∀ N n T fr yb, wfF M N → seI N W l Lk n T fr yb (H + 1) 0 → H + 1 ≤ n → ∀ v3, X 62 [some (aR 108), some (aI (nI c)), some (aI (nI (H + 1))), v3] [] N) : ∀ (m L : Nat) (N : mm_M) (n : Nat) (T : Nat → List Nat × Nat) (fr yb : Nat → Nat), L + m = 36 → wfF M N → seI N W l Lk n T fr yb H L → H < n → (T H).2 ≠ l.length → X 89 [some (aR 108), some (aI (nI c)), some (aI (nI H)), some (aI (nI L))] [] N := by
  have c20 := h.1
  have hW := h.2.1.2
  have hl3 := h.2.2.1.2.2.1
  intro m
  induction m with
  | zero =>
    intro L N n T fr yb hL hF hI hH hS
    obtain rfl : L = 36 := by omega
    have hn := wy_n hW hl3 hI.2.1
    refine am_run hX 3 _ _ _ _ ?_
    conv => whnf
    refine ⟨fun _ => ?_, fun z => absurd (by decide) z⟩
    refine am_run hX 2 _ _ _ _ ?_
    conv => whnf
    rw [nI_1]
    obtain ⟨g1, g2, g3, g4, g5⟩ := hI
    refine hK N n T fr yb hF ⟨g1, g2, fun i a b => ?_, fun j e a b c => ?_, fun j hj => ?_⟩ hH _
    · have := g3 i a b
      omega
    · have e36 := c.1
      exact g4 j e a (by omega) c
    · by_cases q : j = H
      · rw [q]
        exact hS
      · exact g5 j (by omega)
  | succ m ih =>
    intro L N n T fr yb hL hF hI hH hS
    have L36 : L < 36 := by omega
    have hn := wy_n hW hl3 hI.2.1
    obtain ⟨t1, t2⟩ := t_q L L36
    have hN := rtH_f hF h
    have next : ∀ N' n' T' fr' yb', wfF M N' → seI N' W l Lk n' T' fr' yb' H (L + 1) → H < n' → (T' H).2 ≠ l.length → X 158 [some (aR 108), some (aI (nI c)), some (aI (nI H)), some (aI (nI L))] [] N' := by
      intro N' n' T' fr' yb' a b e f
      refine am_run hX 2 _ _ _ _ ?_
      conv => whnf
      rw [nI_1]
      exact ih (L + 1) N' n' T' fr' yb' (by omega) a b e f
    refine am_run hX 3 _ _ _ _ ?_
    conv => whnf
    refine ⟨fun z => absurd z (nI_ge (a := L) (b := 36) L36 (by decide)), fun _ => ?_⟩
    refine am_run hX 7 _ _ _ _ ?_
    conv => whnf
    refine ⟨by decide, ?_⟩
    conv => whnf
    refine ⟨by decide, ?_⟩
    conv => whnf
    rw [t1, t2]
    refine ⟨fun z => ?_, fun z => ?_⟩
    · exact next N n T fr yb hF (seI_n hI (fun q => absurd z (nI_ge q.2.1 (by omega)))) hH hS
    · have z : L / 6 < L % 6 := Classical.byContradiction fun q => z (nI_le (by omega) (by omega))
      refine am_run hX 5 _ _ _ _ ?_
      conv => whnf
      refine ⟨vp_in_nI L36 (by decide), ?_⟩
      conv => whnf
      have eL := hN.2.2.2.2.1 (L / 6) (L % 6) (by omega) (by omega)
      rw [show 6 * (L / 6) + L % 6 = L by omega] at eL
      rw [nI_clamp (n := L) (by omega), eL]
      cases hq : Lk (L / 6) (L % 6) with
      | false =>
        refine ⟨fun z => absurd rfl z, fun _ => ?_⟩
        refine am_run hX 1 _ _ _ _ ?_
        conv => whnf
        exact next N n T fr yb hF (seI_n hI (fun q => by have := q.2.2; rw [hq] at this; exact absurd this (by decide))) hH hS
      | true =>
        refine ⟨fun _ => ?_, fun z => absurd (by decide) z⟩
        have hv : rtV Lk L := ⟨L36, z, hq⟩
        obtain ⟨e1, e2, e3, e4, _⟩ := hI.2.1.2.1 H hH
        refine am_run hX 10 _ _ _ _ ?_
        conv => whnf
        refine ⟨vp_in_nI (by show H < 217000; omega) (by decide), ?_⟩
        conv => whnf
        refine ⟨vp_in_nI (by show c < 21; omega) (by decide), ?_⟩
        conv => whnf
        rw [nI_clamp (n := H) (by omega), nI_clamp (n := c) (by omega), e3, hN.2.2.2.1]
        refine am_cq (ct_unp (d := d + 4) (M := N) hW e1) ?_
        rintro r1 N1 ⟨rfl, f1, p1⟩
        refine ⟨none, rfl, ?_⟩
        refine am_run hX 7 _ _ _ _ ?_
        conv => whnf
        refine ⟨vp_in_nI (by show c < 21; omega) (by decide), ?_⟩
        conv => whnf
        rw [nI_clamp (n := c) (by omega), f1.1 110 (by decide), hN.2.2.2.1]
        refine am_cq (ct_exP (d := d + 4) (M := N1) hW L36 e1 p1) ?_
        rintro r2 N2 ⟨rfl, f2, p2⟩
        refine ⟨none, rfl, ?_⟩
        have f12 := rbF_t f1 f2
        have hI2 := seI_f f12 hI
        have hN2 := rtH_f (wfF_b f12) hN
        refine am_run hX 9 _ _ _ _ ?_
        conv => whnf
        refine ⟨vp_in_nI (by show H < 217000; omega) (by decide), ?_⟩
        conv => whnf
        rw [nI_clamp (n := H) (by omega), f12.1 199 (by decide), e4]
        refine am_cq (ct_vis (d := d) (M := N2) (f := H) (e := L) (s := (T H).2) (vf := nI H) hN2 (arr_s L36 z e1) p2 e2 hI2.2.1 (by rw [if_neg (by omega)]) L36) ?_
        rintro r3 N3 ⟨rfl, f3, q3⟩
        refine ⟨none, rfl, ?_⟩
        have fF := wfF_t (wfF_t hF (wfF_b f12)) f3
        rcases q3 with ⟨q4, i, q5, q6⟩ | q4
        · exact next N3 n T fr yb fF (seI_o ⟨hI2.1, q4, hI2.2.2⟩ q5 q6) hH hS
        · exact next N3 (n + 1) _ _ _ fF (seI_w hI2 hv hH q4) (by omega) (by
            show (upS T n _ H).2 ≠ _
            unfold upS
            rw [if_neg (by omega)]
            exact hS)
/-- what findWay finds -/
def fyQ (M : mm_M) (W : Nat) (l : List bk_X) (Lk : Nat → Nat → Bool) (r : am_R) (N : mm_M) : Prop := wfF M N ∧ ((r = .inl (some (aI (-1))) ∧ ∀ v, alV (rtV Lk) v → ¬ rtG l.length (awS (rtS Lk (rtPp l) l.length) v (rt0 Lk (rtPp l) l.length W))) ∨ ∃ n T fr yb H, r = .inl (some (aI (nI H))) ∧ H < n ∧ n ≤ 216720 ∧ rbT (st := rtS Lk (rtPp l) l.length) (V := rtV Lk) n T fr yb (rt0 Lk (rtPp l) l.length W) ∧ wyE N W l.length n T fr yb ∧ (T H).2 = l.length ∧ ∀ v, alV (rtV Lk) v → rtG l.length (awS (rtS Lk (rtPp l) l.length) v (rt0 Lk (rtPp l) l.length W)) → slx (wdB fr yb H H) v)
set_option maxRecDepth 200000 in
theorem fy_h {P : am_Q} {X : am_X} (hX : am_K (d + 5) false nm_X12_findWay P X) (h : rtH M c W l Lk) (hP : ∀ r N, fyQ M W l Lk r N → P r N) : ∀ (m H : Nat) (N : mm_M) (n : Nat) (T : Nat → List Nat × Nat) (fr yb : Nat → Nat) (v3 : Option am_V), H + m = 216721 → wfF M N → seI N W l Lk n T fr yb H 0 → H ≤ n → X 62 [some (aR 108), some (aI (nI c)), some (aI (nI H)), v3] [] N := by
  have c20 := h.1
  have hW := h.2.1.2
  have hl3 := h.2.2.1.2.2.1
  have least : ∀ {N : mm_M} {n H : Nat} {T : Nat → List Nat × Nat} {fr yb : Nat → Nat}, seI N W l Lk n T fr yb H 0 → H ≤ n → ∀ v, alV (rtV Lk) v → rtG l.length (awS (rtS Lk (rtPp l) l.length) v (rt0 Lk (rtPp l) l.length W)) → H < n ∧ slx (wdB fr yb H H) v := by
    intro N n H T fr yb hI hH v hv hg
    rcases rb_least (R := rtR) (H := H) hI.1 (fun k k' g _ hr => rtR_s k k' g hr) (fun a b c h1 h2 => ⟨h1.1.trans h2.1, Nat.le_trans h2.2 h1.2⟩) (fun a => ⟨rfl, Nat.le_refl _⟩) hH (fun j g hj hgv => hI.2.2.2.1 j g (by omega) (Or.inl hj) hgv) v hv with ⟨i, hi, hr, _⟩ | q
    · have hg : (awS (rtS Lk (rtPp l) l.length) v (rt0 Lk (rtPp l) l.length W)).2 = l.length := hg
      have h2 := hr.2
      have h3 := (hI.2.1.2.1 i (by omega)).2.1
      exact absurd (by omega) (hI.2.2.2.2 i hi)
    · exact q
  intro m
  induction m with
  | zero =>
    intro H N n T fr yb v3 hm hF hI hH
    have := wy_n hW hl3 hI.2.1
    omega
  | succ m ih =>
    intro H N n T fr yb v3 hm hF hI hH
    have hn := wy_n hW hl3 hI.2.1
    have hN := rtH_f hF h
    refine am_run hX 4 _ _ _ _ ?_
    conv => whnf
    rw [hI.2.1.1]
    by_cases e : H = n
    · subst e
      refine ⟨fun _ => ?_, fun z => absurd (nI_le (Nat.le_refl _) (by omega)) z⟩
      refine am_run hX 2 _ _ _ _ ?_
      conv => whnf
      refine ⟨trivial, hP _ N ⟨hF, Or.inl ⟨rfl, fun v hv hg => ?_⟩⟩⟩
      have := (least hI (Nat.le_refl _) v hv hg).1
      omega
    · have hlt : H < n := by omega
      obtain ⟨e1, e2, e3, e4, _⟩ := hI.2.1.2.1 H hlt
      refine ⟨fun z => absurd z (nI_ge (by omega) (by omega)), fun _ => ?_⟩
      refine am_run hX 9 _ _ _ _ ?_
      conv => whnf
      refine ⟨vp_in_nI (by show H < 217000; omega) (by decide), ?_⟩
      conv => whnf
      refine ⟨vp_in_nI (by show c < 21; omega) (by decide), ?_⟩
      conv => whnf
      rw [nI_clamp (n := H) (by omega), nI_clamp (n := c) (by omega), e4, hN.2.2.1.2.1, nI_eq (by omega) (by omega)]
      refine ⟨fun z => ?_, fun z => ?_⟩
      · refine am_run hX 2 _ _ _ _ ?_
        conv => whnf
        exact fy_l (d := d) (M := M) hX h (fun N' n' T' fr' yb' a b e' v => ih (H + 1) N' n' T' fr' yb' v (by omega) a b e') 36 0 N n T fr yb (by omega) hF hI hlt z
      · refine am_run hX 2 _ _ _ _ ?_
        conv => whnf
        exact ⟨trivial, hP _ N ⟨hF, Or.inr ⟨n, T, fr, yb, H, rfl, hlt, hn, hI.1, hI.2.1, Decidable.byContradiction z, fun v hv hg => (least hI hH v hv hg).2⟩⟩⟩
set_option maxRecDepth 100000 in
theorem fy_0 {P : am_Q} {X : am_X} (hX : am_K d false nm_X12_findWay P X) (hK : ∀ N, wfF M N → (∀ q, q < 46656 → N.1 197 q = -1) → X 22 [some (aR 108), some (aI (nI c)), some (aI (nI 46656)), none] [] N) : ∀ (m k : Nat) (N : mm_M), k + m = 46656 → wfF M N → (∀ q, q < k → N.1 197 q = -1) → X 2 [some (aR 108), some (aI (nI c)), some (aI (nI k)), none] [] N := by
  intro m
  induction m with
  | zero =>
    intro k N hk hF hN
    obtain rfl : k = 46656 := by omega
    refine am_run hX 3 _ _ _ _ ?_
    conv => whnf
    refine ⟨fun _ => hK N hF hN, fun z => absurd (by decide) z⟩
  | succ m ih =>
    intro k N hk hF hN
    have k4 : k < 46656 := by omega
    refine am_run hX 3 _ _ _ _ ?_
    conv => whnf
    refine ⟨fun z => absurd z (nI_ge (a := k) (b := 46656) k4 (by decide)), fun _ => ?_⟩
    refine am_run hX 7 _ _ _ _ ?_
    conv => whnf
    refine ⟨vp_in_nI k4 (by decide), ?_⟩
    rw [nI_clamp (n := k) (by omega)]
    generalize hN1 : mm_i N 197 _ = N1
    conv => whnf
    rw [nI_1]
    refine ih (k + 1) N1 (by omega) (wfF_t hF (by rw [← hN1]; exact wfF_i (by omega))) (fun q hq => ?_)
    rw [← hN1, mm_i1]
    by_cases c : q = k
    · rw [c]
      exact up_at
    · rw [up_ne c]
      exact hN q (by omega)
set_option maxRecDepth 100000 in
theorem fy_1 {P : am_Q} {X : am_X} {K : mm_M} (hX : am_K d false nm_X12_findWay P X) (c20 : c < 20) (hW : W ≤ 6) (h110 : K.1 110 c = nI W) (hK : ∀ N, rbF K N → plR N (List.range W) → X 52 [some (aR 108), some (aI (nI c)), some (aI (nI W)), none] [] N) : ∀ (m k : Nat) (N : mm_M), k + m = W → rbF K N → plR N (List.range k) → X 29 [some (aR 108), some (aI (nI c)), some (aI (nI k)), none] [] N := by
  intro m
  induction m with
  | zero =>
    intro k N hk hF hN
    obtain rfl : k = W := by omega
    refine am_run hX 6 _ _ _ _ ?_
    conv => whnf
    refine ⟨vp_in_nI (by show c < 21; omega) (by decide), ?_⟩
    conv => whnf
    rw [nI_clamp (n := c) (by omega), hF.1 110 (by decide), h110]
    refine ⟨fun _ => hK N hF hN, fun z => absurd (nI_le (Nat.le_refl _) (by omega)) z⟩
  | succ m ih =>
    intro k N hk hF hN
    refine am_run hX 6 _ _ _ _ ?_
    conv => whnf
    refine ⟨vp_in_nI (by show c < 21; omega) (by decide), ?_⟩
    conv => whnf
    rw [nI_clamp (n := c) (by omega), hF.1 110 (by decide), h110]
    refine ⟨fun z => absurd z (nI_ge (by omega) (by omega)), fun _ => ?_⟩
    refine am_run hX 7 _ _ _ _ ?_
    conv => whnf
    refine ⟨vp_in_nI (by show k < 6; omega) (by decide), ?_⟩
    rw [nI_clamp (n := k) (by omega)]
    generalize hN1 : mm_i N 196 _ = N1
    conv => whnf
    rw [nI_1]
    refine ih (k + 1) N1 (by omega) (rbF_t hF ⟨fun j hj => by rw [← hN1, mm_ne _ _ _ _ hj], by rw [← hN1]; rfl⟩) ?_
    rw [List.range_succ]
    unfold plR
    rw [← hN1, mm_i1]
    exact gd_u hN (List.length_range).symm rfl
set_option maxRecDepth 200000 in
theorem ct_fWay (h : rtH M c W l Lk) : am_M (d + 6) false nm_X12_findWay [aR 108, aI (nI c)] M (fyQ M W l Lk) := by
  have c20 := h.1
  have hW := h.2.1.2
  have hl3 := h.2.2.1.2.2.1
  refine ⟨rfl, rfl, rfl, fun X hX => am_run hX 2 _ _ _ _ ?_⟩
  conv => whnf
  refine fy_0 (M := M) (c := c) hX (fun N f0 b0 => ?_) 46656 0 M (by omega) (wfF_r M) (fun q hq => absurd hq (Nat.not_lt_zero _))
  refine am_run hX 5 _ _ _ _ ?_
  conv => whnf
  generalize hN1 : mm_i N 108 _ = N1
  have f1 : wfF M N1 := wfF_t f0 ⟨fun k a _ => by rw [← hN1, mm_ne _ _ _ _ a], by rw [← hN1]; rfl, fun y hy => by rw [← hN1, mm_i1, up_ne hy]⟩
  have hH1 := rtH_f f1 h
  refine fy_1 (K := N1) (W := W) hX c20 hW hH1.2.2.2.1 (fun N2 f2 p2 => ?_) W 0 N1 (by omega) (rbF_r N1) (fun w hw => absurd hw (by show ¬ w < ([] : List Nat).length; exact Nat.not_lt_zero _))
  have hE : wyE N2 W l.length 0 (fun _ => ([], 0)) (fun _ => 0) (fun _ => 0) := by
    refine ⟨?_, fun i hi => absurd hi (Nat.not_lt_zero _), fun q hq => Or.inl ⟨?_, fun i hi => absurd hi (Nat.not_lt_zero _)⟩, fun i j hi => absurd hi (Nat.not_lt_zero _)⟩
    · rw [f2.1 108 (by decide), ← hN1, mm_i1]
      exact up_at
    · rw [f2.1 197 (by decide), ← hN1, mm_ne _ _ _ _ (by decide)]
      exact b0 q hq
  have hH2 := rtH_f (wfF_b f2) hH1
  refine am_run hX 6 _ _ _ _ ?_
  conv => whnf
  refine am_cq (ct_vis (d := d) (M := N2) (f := 0) (e := 0) (s := 0) (vf := -1) hH2 (arr_0 hW) p2 (Nat.zero_le _) hE (if_pos rfl).symm (by decide)) ?_
  rintro r3 N3 ⟨rfl, f3, q3⟩
  refine ⟨none, rfl, ?_⟩
  refine am_run hX 2 _ _ _ _ ?_
  conv => whnf
  rcases q3 with ⟨_, i, q5, _⟩ | q4
  · exact absurd q5 (Nat.not_lt_zero _)
  · refine fy_h (d := d) (M := M) hX h (fun r N a => a) 216721 0 N3 1 _ _ _ none (by omega) (wfF_t f1 (wfF_t (wfF_b f2) f3)) ⟨⟨by decide, rfl, fun i a b => by omega, fun i j a b c => by omega⟩, q4, fun i a b => by omega, fun j e a b => by omega, fun j hj => absurd hj (Nat.not_lt_zero _)⟩ (by decide)
end RTF
