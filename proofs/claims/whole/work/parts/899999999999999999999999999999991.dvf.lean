/-! derive: the reference whole -/
/-- what the reference's derive may change, the circuits apart -/
def dvrF (n : Nat) (M N : mm_M) : Prop := (∀ k, k ≠ 108 → (k < 112 ∨ 117 < k) → (k < 133 ∨ 140 < k) → N.1 k = M.1 k) ∧ N.2 = M.2 ∧ (∀ y, y ≠ 36 → y ≠ 37 → y ≠ 38 → (y < 45 ∨ 49 < y) → N.1 108 y = M.1 108 y) ∧ ∀ k a, 112 ≤ k → k ≤ 117 → a < 300 * n → N.1 k a = M.1 k a
theorem dvrF_t {n : Nat} {M N K : mm_M} (h : dvrF n M N) (g : dvrF n N K) : dvrF n M K := ⟨fun k a b c => (g.1 k a b c).trans (h.1 k a b c), g.2.1.trans h.2.1, fun y a b c e => (g.2.2.1 y a b c e).trans (h.2.2.1 y a b c e), fun k a b c e => (g.2.2.2 k a b c e).trans (h.2.2.2 k a b c e)⟩
theorem dvrF_m {n : Nat} {M N : mm_M} (h : mqF n M N) : dvrF n M N := ⟨fun k a b c => h.1 k a b (by omega), h.2.1, fun y a b c _ => h.2.2.1 y a b c, h.2.2.2⟩
theorem dvrF_l {n : Nat} {M N : mm_M} (h : lrF n M N) : dvrF n M N := ⟨fun k a b _ => h.1 k a (by omega), h.2.1, fun y a _ _ _ => h.2.2.1 y a, fun k a b c e => by
  by_cases q : k ≤ 115
  · exact h.2.2.2 k a b q e
  · rw [h.1 k (by omega) (by omega)]⟩
/-- what is laid at the end -/
def lfn (N : mm_M) (n : Nat) (L : List bk_X) : Prop := (okL L → N.1 108 38 = 0 ∧ N.1 108 36 = nI L.length ∧ ∀ j, j < L.length → N.1 112 (300 * n + j) = nI (zg L j).1 ∧ N.1 113 (300 * n + j) = nI (zg L j).2.1 ∧ N.1 114 (300 * n + j) = nI (zg L j).2.2.1 ∧ N.1 115 (300 * n + j) = nI (zg L j).2.2.2.1 ∧ N.1 116 (300 * n + j) = nI (zg L j).2.2.2.2.1 ∧ N.1 117 (300 * n + j) = nI (zg L j).2.2.2.2.2) ∧ (¬ okL L → N.1 108 38 = 1)
theorem llw_n {N : mm_M} {n : Nat} {L : List bk_X} (h : llw N n L) : lfn N n L := by
  obtain ⟨h1, h2, h3, h4⟩ := h
  obtain ⟨_, _, p3, p4, p5, _⟩ := ly3_p L
  refine ⟨fun ok => ?_, fun no => ?_⟩
  · have e0 : (ly3 L).2.2 = 0 := p5.mpr ok
    have e1 : (ly3 L).1 = L.length := (p4 e0).1
    rw [e0] at h3
    rw [e1] at h1 h4
    exact ⟨h3, h1, h4⟩
  · have e1 : (ly3 L).2.2 = 1 := by
      have : (ly3 L).2.2 ≠ 0 := fun z => no (p5.mp z)
      omega
    rw [e1] at h3
    exact h3
theorem mqF_lr {n : Nat} {M N : mm_M} (h : lrF n M N) : mqF n M N := ⟨fun k a b _ => h.1 k a (by omega), h.2.1, fun y a _ _ => h.2.2.1 y a, fun k a b c e => by
  by_cases q : k ≤ 115
  · exact h.2.2.2 k a b q e
  · rw [h.1 k (by omega) (by omega)]⟩
theorem hcl_c (x : bk_X) (l : List bk_X) : hcl (x :: l) = (if x.1 = 3 then 1 else 0) + hcl l := rfl
theorem hcl_e : ∀ (l : List bk_X) (i : Nat), hcl (l.eraseIdx i) ≤ hcl l
  | [], i => Nat.le_refl _
  | x :: l, 0 => by
    show hcl l ≤ _
    rw [hcl_c]
    omega
  | x :: l, i + 1 => by
    have := hcl_e l i
    show hcl (x :: l.eraseIdx i) ≤ _
    rw [hcl_c, hcl_c]
    omega
theorem hcl_s {y : bk_X} (hy : y.1 ≠ 3) : ∀ (l : List bk_X) (i : Nat), hcl (l.set i y) ≤ hcl l
  | [], i => Nat.le_refl _
  | x :: l, 0 => by
    show hcl (y :: l) ≤ _
    rw [hcl_c, hcl_c, if_neg hy]
    omega
  | x :: l, i + 1 => by
    have := hcl_s hy l i
    show hcl (x :: l.set i y) ≤ _
    rw [hcl_c, hcl_c]
    omega
theorem ke_3 (e : Nat) : keN e ≠ 3 := by
  unfold keN
  split
  · decide
  · split
    · decide
    · split
      · decide
      · split <;> decide
theorem cnS_h (l : List bk_X) (i j : Nat) : hcl (cnS l i j) ≤ hcl l := by
  unfold cnS
  split
  · exact Nat.le_trans (hcl_e _ _) (hcl_e _ _)
  · exact Nat.le_trans (hcl_e _ _) (hcl_s (ke_3 _) _ _)
theorem cnN_h : ∀ (m : Nat) (l : List bk_X), hcl (cnN m l) ≤ hcl l ∧ (cnN m l).length ≤ l.length
  | 0, l => ⟨Nat.le_refl _, Nat.le_refl _⟩
  | m + 1, l => by
    have ec : cnN (m + 1) l = match cnO l with
      | some k => cnN m k
      | none => l := rfl
    cases hk : cnO l with
    | none => rw [ec, hk]; exact ⟨Nat.le_refl _, Nat.le_refl _⟩
    | some k =>
      rw [ec, hk]
      have ih := cnN_h m k
      have hl := cnO_l hk
      have hh : hcl k ≤ hcl l := by
        unfold cnO at hk
        cases hi : cnI l l.length 0 with
        | none => rw [hi] at hk; cases hk
        | some p =>
          obtain ⟨a, b⟩ := p
          rw [hi] at hk
          cases hk
          exact cnS_h l a b
      show hcl (cnN m k) ≤ hcl l ∧ (cnN m k).length ≤ l.length
      omega
section DVF
variable {d : Nat} {M : mm_M} {n c W : Nat} {l : List bk_X}
set_option maxRecDepth 100000 in
theorem ct_canR (h6 : M.1 108 6 = nI n) (hn : n < 20) (hc : c < n) (hW : W ≤ 8) (hl : opsL M c W l) (hok : okL l) (ho : allO W l) (hL : llw M n []) : am_M (d + 4) false nm_X12_cancel [aR 108, aI (nI c)] M (fun r N => r = .inl none ∧ mqF n M N ∧ lfn N n (cnN 300 l)) := by
  have key := ct_copy (d := d + 1) (M := M) (l0 := []) h6 hn hc hl
  rw [llw_d hL, List.nil_append] at key
  have hlw := llw_l M n l
  obtain ⟨_, _, _, p4, p5, _⟩ := ly3_p l
  have e0 : (ly3 l).2.2 = 0 := p5.mpr hok
  have e1 : (ly3 l).1 = l.length := (p4 e0).1
  obtain ⟨w1, w2, w3, w4⟩ := hlw
  rw [e0] at w3
  rw [e1] at w1 w4
  have hdr := mqF_l (n := n) (M := M) l
  have hlrf : lrf (llM M n l) n l := ⟨hok.1, by rw [hdr.2.2.1 6 (by decide) (by decide) (by decide)]; exact h6, w1, fun j hj => ⟨(w4 j hj).1, (w4 j hj).2.1, (w4 j hj).2.2.1, (w4 j hj).2.2.2.1⟩⟩
  refine ⟨rfl, rfl, rfl, fun X hX => am_run hX 5 _ _ _ _ ?_⟩
  conv => whnf
  refine am_c0 key ?_
  refine am_run hX 3 _ _ _ _ ?_
  conv => whnf
  rw [w3]
  refine ⟨fun z => absurd rfl z, fun _ => ?_⟩
  refine am_run hX 3 _ _ _ _ ?_
  conv => whnf
  refine rcn_l (d := d) (M := llM M n l) (n := n) (W := W) hX hn hW (cnN 300 l) (fun N a b e => ⟨rfl, mqF_t hdr (mqF_lr a), ?_⟩) 300 (llM M n l) l hok.1 (lrF_r n _) hlrf ho rfl
  obtain ⟨b1, b2, b3, b4⟩ := b
  have hh := cnN_h 300 l
  have hok' : okL (cnN 300 l) := ⟨b1, Nat.le_trans hh.1 hok.2⟩
  refine ⟨fun _ => ⟨?_, b3, fun j hj => ?_⟩, fun z => absurd hok' z⟩
  · rw [a.2.2.1 38 (by decide)]
    exact w3
  · obtain ⟨v1, v2, v3, v4⟩ := b4 j hj
    have pj := of_decide_eq_true (e j hj).2
    have pl := of_decide_eq_true (ho j (by omega)).2
    refine ⟨v1, v2, v3, v4, ?_, ?_⟩
    · rw [a.1 116 (by decide) (by omega), (w4 j (by omega)).2.2.2.2.1, pj.2.1, pl.2.1]
    · rw [a.1 117 (by decide) (by omega), (w4 j (by omega)).2.2.2.2.2, pj.2.2, pl.2.2]
end DVF
section DVG
variable {d : Nat} {M : mm_M} {n c W V : Nat} {how q : Int32} {L : List bk_X} {Fq : mm_M → Prop}
set_option maxRecDepth 100000 in
theorem dv_e2 {P : am_Q} {X : am_X} {v4 : Int32} (hX : am_K (d + 7) false nm_X12_derive P X) (hn : n < 20) (hc : c < n) (h6 : M.1 108 6 = nI n) (h110 : M.1 110 c = nI W) (hFq : ∀ N, Fq N → dvrF n M N) (K1 : okL L → ∀ N, Fq N → lfn N n L → P (.inl (some (aI (nI n)))) (stM N n W)) (K0 : ¬ okL L → ∀ N, Fq N → P (.inl (some (aI (-1)))) N) {N : mm_M} (hq0 : Fq N) (hL : lfn N n L) : X 202 [some (aR 108), some (aI how), some (aI (nI c)), some (aI q), some (aI v4)] [] N := by
  have hF := hFq N hq0
  refine am_run hX 3 _ _ _ _ ?_
  conv => whnf
  by_cases ok : okL L
  · rw [(hL.1 ok).1]
    refine ⟨fun _ => ?_, fun z => absurd rfl z⟩
    have e110 : N.1 110 c = nI W := by rw [hF.1 110 (by decide) (by omega) (by omega)]; exact h110
    have e6 : N.1 108 6 = nI n := by rw [hF.2.2.1 6 (by decide) (by decide) (by decide) (by omega)]; exact h6
    refine am_run hX 7 _ _ _ _ ?_
    conv => whnf
    refine ⟨vp_in_nI (by show c < 21; omega) (by decide), ?_⟩
    conv => whnf
    rw [nI_clamp (n := c) (by omega), e110]
    refine am_c1 (ct_set (d := d + 6) e6 hn) ?_
    conv => whnf
    exact ⟨trivial, K1 ok N hq0 hL⟩
  · rw [hL.2 ok]
    refine ⟨fun z => absurd z (by decide), fun _ => ?_⟩
    refine am_run hX 3 _ _ _ _ ?_
    conv => whnf
    exact ⟨trivial, K0 ok N hq0⟩
set_option maxRecDepth 100000 in
theorem dv_e3 {P : am_Q} {X : am_X} {v4 : Int32} (hX : am_K (d + 7) false nm_X12_derive P X) (hn : n < 20) (hc : c < n) (h6 : M.1 108 6 = nI n) (h110 : M.1 110 c = nI W) (hV : V = W + (if how = 2 then 1 else 0)) (hFq : ∀ N, Fq N → dvrF n M N) (K1 : okL L → ∀ N, Fq N → lfn N n L → P (.inl (some (aI (nI n)))) (stM N n V)) (K0 : ¬ okL L → ∀ N, Fq N → P (.inl (some (aI (-1)))) N) {N : mm_M} (hq0 : Fq N) (hL : lfn N n L) : X 291 [some (aR 108), some (aI how), some (aI (nI c)), some (aI q), some (aI v4)] [] N := by
  have hF := hFq N hq0
  refine am_run hX 3 _ _ _ _ ?_
  conv => whnf
  by_cases ok : okL L
  · rw [(hL.1 ok).1]
    refine ⟨fun _ => ?_, fun z => absurd rfl z⟩
    have e110 : N.1 110 c = nI W := by rw [hF.1 110 (by decide) (by omega) (by omega)]; exact h110
    have e6 : N.1 108 6 = nI n := by rw [hF.2.2.1 6 (by decide) (by decide) (by decide) (by omega)]; exact h6
    have h325 : X 325 [some (aR 108), some (aI how), some (aI (nI c)), some (aI q), some (aI v4)] [aI (nI V), aR 108] N := by
      refine am_run hX 2 _ _ _ _ ?_
      conv => whnf
      refine am_c1 (ct_set (d := d + 6) e6 hn) ?_
      conv => whnf
      exact ⟨trivial, K1 ok N hq0 hL⟩
    refine am_run hX 4 _ _ _ _ ?_
    conv => whnf
    refine ⟨fun z => ?_, fun z => ?_⟩
    · rw [if_neg z, Nat.add_zero] at hV
      subst hV
      refine am_run hX 4 _ _ _ _ ?_
      conv => whnf
      refine ⟨vp_in_nI (by show c < 21; omega) (by decide), ?_⟩
      conv => whnf
      rw [nI_clamp (n := c) (by omega), e110]
      exact h325
    · rw [if_pos (Decidable.byContradiction z)] at hV
      refine am_run hX 7 _ _ _ _ ?_
      conv => whnf
      refine ⟨vp_in_nI (by show c < 21; omega) (by decide), ?_⟩
      conv => whnf
      rw [nI_clamp (n := c) (by omega), e110, nI_1, ← hV]
      exact h325
  · rw [hL.2 ok]
    refine ⟨fun z => absurd z (by decide), fun _ => ?_⟩
    refine am_run hX 3 _ _ _ _ ?_
    conv => whnf
    exact ⟨trivial, K0 ok N hq0⟩
end DVG
