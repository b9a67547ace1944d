/-! derive, MERGED: the reference lays -/
/-- what is laid -/
def llw (N : mm_M) (n : Nat) (l : List bk_X) : Prop := N.1 108 36 = nI (ly3 l).1 ∧ N.1 108 37 = nI (ly3 l).2.1 ∧ N.1 108 38 = nI (ly3 l).2.2 ∧ ∀ j, j < (ly3 l).1 → N.1 112 (300 * n + j) = nI (zg l j).1 ∧ N.1 113 (300 * n + j) = nI (zg l j).2.1 ∧ N.1 114 (300 * n + j) = nI (zg l j).2.2.1 ∧ N.1 115 (300 * n + j) = nI (zg l j).2.2.2.1 ∧ N.1 116 (300 * n + j) = nI (zg l j).2.2.2.2.1 ∧ N.1 117 (300 * n + j) = nI (zg l j).2.2.2.2.2
theorem lwR_s {f F : Nat → Int32} {b k : Nat} (h : ∀ j, j < k → f (b + j) = F j) : lwR f F b k = f := by
  funext a
  unfold lwR
  by_cases q : b ≤ a ∧ a < b + k
  · rw [if_pos q]
    have := h (a - b) (by omega)
    rw [show b + (a - b) = a by omega] at this
    exact this.symm
  · rw [if_neg q]
theorem llw_d {N : mm_M} {n : Nat} {l : List bk_X} (h : llw N n l) : llM N n l = N := by
  obtain ⟨h1, h2, h3, h4⟩ := h
  have e108 : upd (upd (upd (N.1 108) 36 (nI (ly3 l).1)) 37 (nI (ly3 l).2.1)) 38 (nI (ly3 l).2.2) = N.1 108 := by
    funext j
    unfold upd
    by_cases q1 : j = 38
    · rw [if_pos q1, q1, h3]
    · rw [if_neg q1]
      by_cases q2 : j = 37
      · rw [if_pos q2, q2, h2]
      · rw [if_neg q2]
        by_cases q3 : j = 36
        · rw [if_pos q3, q3, h1]
        · rw [if_neg q3]
  have hl : llM N n l = mm_i (lyM N n (zg l) (ly3 l).1 (ly3 l).2.1) 108 (upd ((lyM N n (zg l) (ly3 l).1 (ly3 l).2.1).1 108) 38 (nI (ly3 l).2.2)) := rfl
  have e38 : upd (upd (upd (upd (N.1 108) 36 (nI (ly3 l).1)) 37 (nI (ly3 l).2.1)) 38 0) 38 (nI (ly3 l).2.2) = upd (upd (upd (N.1 108) 36 (nI (ly3 l).1)) 37 (nI (ly3 l).2.1)) 38 (nI (ly3 l).2.2) := by
    funext j
    unfold upd
    by_cases q : j = 38
    · rw [if_pos q, if_pos q]
    · rw [if_neg q, if_neg q, if_neg q]
  rw [hl, ly_108, e38, e108]
  unfold lyM
  rw [lwR_s (fun j hj => (h4 j hj).1), lwR_s (fun j hj => (h4 j hj).2.1), lwR_s (fun j hj => (h4 j hj).2.2.1), lwR_s (fun j hj => (h4 j hj).2.2.2.1), lwR_s (fun j hj => (h4 j hj).2.2.2.2.1), lwR_s (fun j hj => (h4 j hj).2.2.2.2.2), mm_iz, mm_iz, mm_iz, mm_iz, mm_iz, mm_iz, mm_ii, mm_iz]
theorem llw_r {f F : Nat → Int32} {b k j : Nat} (hj : j < k) : lwR f F b k (b + j) = F j := by
  unfold lwR
  rw [if_pos (by omega), Nat.add_sub_cancel_left]
theorem llw_l (N : mm_M) (n : Nat) (l : List bk_X) : llw (llM N n l) n l := by
  refine ⟨by rw [ll_108]; rfl, by rw [ll_108]; rfl, by rw [ll_108]; rfl, fun j hj => ?_⟩
  have e : ∀ k, k ≠ 108 → (llM N n l).1 k = (lyM N n (zg l) (ly3 l).1 (ly3 l).2.1).1 k := fun k hk => mm_ne _ _ _ _ hk
  rw [e 112 (by decide), e 113 (by decide), e 114 (by decide), e 115 (by decide), e 116 (by decide), e 117 (by decide), ly_112, ly_113, ly_114, ly_115, ly_116, ly_117, llw_r hj, llw_r hj, llw_r hj, llw_r hj, llw_r hj, llw_r hj]
  exact ⟨rfl, rfl, rfl, rfl, rfl, rfl⟩
/-- what merging may change at the reference -/
def mqF (n : Nat) (M N : mm_M) : Prop := (∀ k, k ≠ 108 → k < 112 ∨ 117 < k → k < 133 ∨ 135 < k → N.1 k = M.1 k) ∧ N.2 = M.2 ∧ (∀ y, y ≠ 36 → y ≠ 37 → y ≠ 38 → N.1 108 y = M.1 108 y) ∧ ∀ k a, 112 ≤ k → k ≤ 117 → a < 300 * n → N.1 k a = M.1 k a
theorem mqF_r (n : Nat) (M : mm_M) : mqF n M M := ⟨fun _ _ _ _ => rfl, rfl, fun _ _ _ _ => rfl, fun _ _ _ _ _ => rfl⟩
theorem mqF_t {n : Nat} {M N K : mm_M} (h : mqF n M N) (g : mqF n N K) : mqF n M K := ⟨fun k a b c => (g.1 k a b c).trans (h.1 k a b c), g.2.1.trans h.2.1, fun y a b c => (g.2.2.1 y a b c).trans (h.2.2.1 y a b c), fun k a b c e => (g.2.2.2 k a b c e).trans (h.2.2.2 k a b c e)⟩
theorem mqF_p {n : Nat} {M N : mm_M} (h : prF M N) : mqF n M N := ⟨fun k _ _ c => h.1 k (by omega) (by omega), h.2, fun y _ _ _ => by rw [h.1 108 (by decide) (by decide)], fun k a b c _ => by rw [h.1 k (by omega) (by omega)]⟩
theorem mqF_i {n : Nat} {M : mm_M} {f : Nat → Int32} : mqF n M (mm_i M 135 f) := ⟨fun j _ _ c => mm_ne _ _ _ _ (by omega), rfl, fun y _ _ _ => by rw [mm_ne _ _ _ _ (by decide)], fun k a b c _ => by rw [mm_ne _ _ _ _ (by omega)]⟩
theorem mqF_l {n : Nat} {M : mm_M} (l : List bk_X) : mqF n M (llM M n l) := by
  refine ⟨fun k a b _ => ll_r M n l a (by omega), rfl, fun y a b c => ?_, fun k a b c e => ?_⟩
  · rw [ll_108]
    unfold upd
    rw [if_neg c, if_neg b, if_neg a]
  · rcases (by omega : k = 112 ∨ k = 113 ∨ k = 114 ∨ k = 115 ∨ k = 116 ∨ k = 117) with rfl | rfl | rfl | rfl | rfl | rfl
    · exact ll_112 M l e
    · exact ll_113 M l e
    · exact ll_114 M l e
    · exact ll_115 M l e
    · exact ll_116 M l e
    · exact ll_117 M l e
theorem llw_f {n : Nat} {N K : mm_M} {l : List bk_X} (h : llw N n l) (e1 : K.1 108 = N.1 108) (e2 : ∀ k, 112 ≤ k → k ≤ 117 → K.1 k = N.1 k) : llw K n l := by
  unfold llw at h ⊢
  rw [e1, e2 112 (by decide) (by decide), e2 113 (by decide) (by decide), e2 114 (by decide) (by decide), e2 115 (by decide) (by decide), e2 116 (by decide) (by decide), e2 117 (by decide) (by decide)]
  exact h
theorem llw_p {n : Nat} {N K : mm_M} {l : List bk_X} (h : llw N n l) (f : prF N K) : llw K n l := llw_f h (f.1 108 (by decide) (by decide)) (fun k a b => f.1 k (by omega) (by omega))
section MRT
variable {d : Nat} {M : mm_M} {W n c : Nat} {l : List bk_X}
set_option maxRecDepth 100000 in
theorem mt_0 {P : am_Q} {X : am_X} {l3 l4 l5 l6 : Option am_V} (hX : am_K d false nm_X12_merge P X) (hK : ∀ N, (∀ k, k ≠ 135 → N.1 k = M.1 k) → N.2 = M.2 → (∀ p, p < 256 → N.1 135 p = 0) → X 22 [some (aR 108), some (aI (nI c)), some (aI (nI 256)), l3, l4, l5, l6] [] N) : ∀ (m i : Nat) (N : mm_M), i + m = 256 → (∀ k, k ≠ 135 → N.1 k = M.1 k) → N.2 = M.2 → (∀ p, p < i → N.1 135 p = 0) → X 2 [some (aR 108), some (aI (nI c)), some (aI (nI i)), l3, l4, l5, l6] [] N := by
  intro m
  induction m with
  | zero =>
    intro i N hi hF h2 hc
    obtain rfl : i = 256 := by omega
    refine am_run hX 3 _ _ _ _ ?_
    conv => whnf
    exact ⟨fun _ => hK N hF h2 hc, fun q => absurd (by decide) q⟩
  | succ m ih =>
    intro i N hi hF h2 hc
    refine am_run hX 3 _ _ _ _ ?_
    conv => whnf
    refine ⟨fun q => absurd q (nI_ge (a := i) (b := 256) (by omega) (by decide)), fun _ => ?_⟩
    refine am_run hX 7 _ _ _ _ ?_
    conv => whnf
    refine ⟨vp_in_nI (by show i < 256; omega) (by decide), ?_⟩
    conv => whnf
    rw [nI_clamp (n := i) (by omega), nI_1]
    refine ih (i + 1) _ (by omega) (fun k hk => by rw [mm_ne _ _ _ _ hk]; exact hF k hk) h2 (fun p hp => ?_)
    rw [mm_i1]
    by_cases q : p = i
    · subst q
      exact if_pos rfl
    · exact (if_neg q).trans (hc p (by omega))
set_option maxRecDepth 100000 in
theorem mt_c {P : am_Q} {X : am_X} {i : Nat} {l5 l6 : Option am_V} (hX : am_K (d + 2) false nm_X12_merge P X) (hc : c < 20) (hW : W ≤ 8) (s300 : l.length ≤ 300) (hi : i < l.length) (hr : ∀ j, j < l.length → rfO M (300 * c + j) (zg l j)) (ho : allO W l) (hK : ∀ N, prF M N → pqM N (pSk (zg l) i) → X 116 [some (aR 108), some (aI (nI c)), some (aI (nI i)), some (aI (nI (300 * c + i))), some (aI (nI (300 * c + i))), l5, l6] [] N) : ∀ (m k : Nat) (N : mm_M), k + m = i → prF M N → pqM N (pSk (zg l) k) → X 98 [some (aR 108), some (aI (nI c)), some (aI (nI i)), some (aI (nI (300 * c + i))), some (aI (nI (300 * c + k))), l5, l6] [] N := by
  intro m
  induction m with
  | zero =>
    intro k N hk hF hP
    obtain rfl : k = i := by omega
    refine am_run hX 3 _ _ _ _ ?_
    conv => whnf
    exact ⟨fun _ => hK N hF hP, fun q => absurd (nI_le (Nat.le_refl _) (by omega)) q⟩
  | succ m ih =>
    intro k N hk hF hP
    refine am_run hX 3 _ _ _ _ ?_
    conv => whnf
    refine ⟨fun q => absurd q (nI_ge (by omega) (by omega)), fun _ => ?_⟩
    refine am_run hX 3 _ _ _ _ ?_
    conv => whnf
    refine am_cq (ct_caryR (d := d) (by omega) hW (ho k (by omega)).1 (rfO_p hF (hr k (by omega))) hP) fun r1 N1 hq => ?_
    obtain ⟨rfl, f1, g1⟩ := hq
    refine ⟨none, rfl, ?_⟩
    refine am_run hX 2 _ _ _ _ ?_
    conv => whnf
    rw [nI_1]
    exact ih (k + 1) N1 (by omega) (prF_t hF f1) g1
theorem mq_op {N : mm_M} (hcn : c < n) (s300 : l.length ≤ 300) (hF : mqF n M N) (hr : ∀ j, j < l.length → rfO M (300 * c + j) (zg l j)) : ∀ j, j < l.length → rfO N (300 * c + j) (zg l j) := by
  intro j hj
  have h := hr j hj
  unfold rfO at h ⊢
  rw [hF.2.2.2 112 _ (by decide) (by decide) (by omega), hF.2.2.2 113 _ (by decide) (by decide) (by omega), hF.2.2.2 114 _ (by decide) (by decide) (by omega), hF.2.2.2 115 _ (by decide) (by decide) (by omega)]
  exact h
set_option maxRecDepth 100000 in
theorem mt_i {P : am_Q} {X : am_X} (hX : am_K (d + 3) false nm_X12_merge P X) (hcn : c < n) (hn : n < 20) (h6 : M.1 108 6 = nI n) (hW : W ≤ 8) (h111 : M.1 111 c = nI l.length) (s300 : l.length ≤ 300) (hr : ∀ j, j < l.length → rfO M (300 * c + j) (zg l j)) (ho : allO W l) (hK : ∀ N, mqF n M N → llw N n (mgL (zg l) l.length l.length) → P (.inl none) N) : ∀ (m k : Nat) (N : mm_M) (l3 l4 l5 l6 : Option am_V), k + m = l.length → mqF n M N → llw N n (mgL (zg l) l.length k) → (∀ p, p < 256 → N.1 135 p = b01 (seS (zg l) p k)) → X 24 [some (aR 108), some (aI (nI c)), some (aI (nI k)), l3, l4, l5, l6] [] N := by
  intro m
  induction m with
  | zero =>
    intro k N l3 l4 l5 l6 hk hF hL hS
    obtain rfl : k = l.length := by omega
    have e111 : N.1 111 c = nI l.length := by rw [hF.1 111 (by decide) (by omega) (by omega)]; exact h111
    refine am_run hX 7 _ _ _ _ ?_
    conv => whnf
    refine ⟨vp_in_nI (by show c < 21; omega) (by decide), ?_⟩
    conv => whnf
    rw [nI_clamp (n := c) (by omega), e111]
    refine ⟨fun _ => ?_, fun q => absurd (nI_le (Nat.le_refl _) (by omega)) q⟩
    conv => whnf
    exact ⟨trivial, hK N hF hL⟩
  | succ m ih =>
    intro k N l3 l4 l5 l6 hk hF hL hS
    have kl : k < l.length := by omega
    have e111 : N.1 111 c = nI l.length := by rw [hF.1 111 (by decide) (by omega) (by omega)]; exact h111
    have e6 : N.1 108 6 = nI n := by rw [hF.2.2.1 6 (by decide) (by decide) (by decide)]; exact h6
    have gk := (ho k kl).1
    have pk := of_decide_eq_true (ho k kl).2
    have hrN := mq_op hcn s300 hF hr
    obtain ⟨r2, r3, r4, r5⟩ := hrN k kl
    have hwl : (zg l k).2.1 < 8 := by have := gk.1.2.1; omega
    have eg := eg_7 (zg l k).1
    have hIa : vp_in (nI (300 * c + k)) 6300 := vp_in_nI (by omega) (by decide)
    have hmg : mgL (zg l) l.length (k + 1) = mgL (zg l) l.length k ++ (if phB (zg l k) = true then (if seS (zg l) (pyK (zg l) k) k = true then [] else eis (mgT (zg l) l.length k) (zg l k).2.1) else [zg l k]) := rfl
    have hse : ∀ p, seS (zg l) p (k + 1) = (seS (zg l) p k || (phB (zg l k) && decide (pyK (zg l) k = p))) := fun _ => rfl
    have hnx : ∀ (N' : mm_M) (l3 l4 l5 l6 : Option am_V), mqF n M N' → llw N' n (mgL (zg l) l.length (k + 1)) → (∀ p, p < 256 → N'.1 135 p = b01 (seS (zg l) p (k + 1))) → X 200 [some (aR 108), some (aI (nI c)), some (aI (nI k)), l3, l4, l5, l6] [] N' := by
      intro N' l3 l4 l5 l6 a b e
      refine am_run hX 2 _ _ _ _ ?_
      conv => whnf
      rw [nI_1]
      exact ih (k + 1) N' _ _ _ _ (by omega) a b e
    refine am_run hX 6 _ _ _ _ ?_
    conv => whnf
    refine ⟨vp_in_nI (by show c < 21; omega) (by decide), ?_⟩
    conv => whnf
    rw [nI_clamp (n := c) (by omega), e111]
    refine ⟨fun q => absurd q (nI_ge (by omega) (by omega)), fun _ => ?_⟩
    refine am_run hX 12 _ _ _ _ ?_
    conv => whnf
    rw [show (300 : Int32) = nI 300 from rfl, nI_mul, nI_add]
    refine ⟨hIa, ?_⟩
    conv => whnf
    rw [nI_clamp (n := 300 * c + k) (by omega), r2]
    refine am_c1 (ct_egR (d := d + 2) gk.1.1) ?_
    conv => whnf
    rw [show (0 : Int32) = nI 0 from rfl, nI_eq (by omega) (by decide)]
    refine ⟨fun heg => ?_, fun heg => ?_⟩
    · have hphB : phB (zg l k) = true := decide_eq_true heg
      refine am_run hX 2 _ _ _ _ ?_
      conv => whnf
      refine am_cq (ct_stPR (d := d + 2)) fun r1 N1 hq => ?_
      obtain ⟨rfl, f1, g1⟩ := hq
      refine ⟨none, rfl, ?_⟩
      refine am_run hX 4 _ _ _ _ ?_
      conv => whnf
      rw [show (300 : Int32) = nI 300 from rfl, nI_mul]
      refine mt_c (d := d + 1) (M := N) (l := l) (W := W) hX (by omega) hW s300 kl hrN ho (fun N2 f2 g2 => ?_) k 0 N1 (by omega) f1 g1
      obtain ⟨q2, q3, q4, q5⟩ := rfO_p f2 (hrN k kl)
      obtain ⟨t1, t2, t3⟩ := g2 _ hwl
      have hpy : pyK (zg l) k < 256 := t2
      have e133 : N2.1 133 (nI (zg l k).2.1).toNatClampNeg = nI (pyK (zg l) k) := by
        rw [nI_clamp (by omega)]
        exact t1
      have e134 : N2.1 134 (nI (zg l k).2.1).toNatClampNeg = b01 ((pSk (zg l) k).2 (zg l k).2.1) := by
        rw [nI_clamp (by omega)]
        exact t3
      have e135 : N2.1 135 (nI (pyK (zg l) k)).toNatClampNeg = b01 (seS (zg l) (pyK (zg l) k) k) := by
        rw [nI_clamp (by omega), f2.1 135 (by decide) (by decide)]
        exact hS _ hpy
      have hL2 := llw_p hL f2
      have hF2 : mqF n M N2 := mqF_t hF (mqF_p f2)
      refine am_run hX 21 _ _ _ _ ?_
      conv => whnf
      refine ⟨hIa, ?_⟩
      conv => whnf
      rw [nI_clamp (n := 300 * c + k) (by omega), q3]
      refine ⟨vp_in_nI (by show (zg l k).2.1 < 8; exact hwl) (by decide), ?_⟩
      conv => whnf
      rw [e133]
      refine ⟨hIa, ?_⟩
      conv => whnf
      rw [nI_clamp (n := 300 * c + k) (by omega), q3]
      refine ⟨vp_in_nI (by show (zg l k).2.1 < 8; exact hwl) (by decide), ?_⟩
      conv => whnf
      rw [e134]
      refine ⟨vp_in_nI (by show pyK (zg l) k < 256; exact hpy) (by decide), ?_⟩
      conv => whnf
      rw [e135]
      cases hsee : seS (zg l) (pyK (zg l) k) k with
      | true =>
        refine ⟨fun q => absurd q (by decide), fun _ => ?_⟩
        refine am_run hX 1 _ _ _ _ ?_
        conv => whnf
        refine hnx N2 _ _ _ _ hF2 ?_ (fun p hp => ?_)
        · rw [hmg, if_pos hphB, if_pos hsee, List.append_nil]
          exact hL2
        · rw [f2.1 135 (by decide) (by decide), hS p hp, hse p, hphB, Bool.true_and]
          by_cases q : pyK (zg l) k = p
          · rw [← q, hsee]
            rfl
          · rw [decide_eq_false q, Bool.or_false]
      | false =>
        refine ⟨fun _ => ?_, fun q => absurd rfl q⟩
        have hp111 : ∀ K : mm_M, (∀ j, j ≠ 135 → K.1 j = N2.1 j) → K.1 111 c = nI l.length := fun K hK => by
          rw [hK 111 (by decide), f2.1 111 (by decide) (by decide)]
          exact e111
        refine am_run hX 9 _ _ _ _ ?_
        conv => whnf
        refine ⟨vp_in_nI (by show pyK (zg l) k < 256; exact hpy) (by decide), ?_⟩
        conv => whnf
        rw [nI_clamp (n := pyK (zg l) k) (by omega)]
        generalize hK3 : mm_i N2 135 (upd (N2.1 135) (pyK (zg l) k) (vp_nar (if 2 = 2 then FieldType.boolean else FieldType.byte) 1)) = K3
        have k3 : ∀ j, j ≠ 135 → K3.1 j = N2.1 j := fun j hj => by rw [← hK3]; exact mm_ne _ _ _ _ hj
        have hF3 : mqF n M K3 := by
          rw [← hK3]
          exact mqF_t hF2 mqF_i
        have hr3 := mq_op hcn s300 hF3 hr
        have hL3 : llw K3 n (mgL (zg l) l.length k) := llw_f hL2 (k3 108 (by decide)) (fun j a b => k3 j (by omega))
        have s3 : ∀ p, p < 256 → K3.1 135 p = b01 (seS (zg l) p (k + 1)) := by
          intro p hp
          rw [← hK3, mm_i1, hse p, hphB, Bool.true_and]
          by_cases q : p = pyK (zg l) k
          · rw [decide_eq_true q.symm, Bool.or_true]
            refine (if_pos q).trans ?_
            decide
          · rw [decide_eq_false (fun z => q z.symm), Bool.or_false]
            refine (if_neg q).trans ?_
            rw [f2.1 135 (by decide) (by decide)]
            exact hS p hp
        refine am_cq (ct_allE (d := d) (M := K3) (l := l) (c := c) (by omega) hW (hp111 K3 k3) s300 hr3 ho hpy) fun r4 N4 hq4 => ?_
        obtain ⟨rfl, f4⟩ := hq4
        refine ⟨_, rfl, ?_⟩
        have hL4 := llw_p hL3 f4
        have hF4 : mqF n M N4 := mqF_t hF3 (mqF_p f4)
        have e64 : N4.1 108 6 = nI n := by rw [hF4.2.2.1 6 (by decide) (by decide) (by decide)]; exact h6
        obtain ⟨_, u3, _, _⟩ := mq_op hcn s300 hF4 hr k kl
        have t8 : toS (zg l) (pyK (zg l) k) l.length % 8 < 8 := Nat.mod_lt _ (by decide)
        have hfin : ∀ e, e = mgT (zg l) l.length k → ∀ l6, X 191 [some (aR 108), some (aI (nI c)), some (aI (nI k)), some (aI (nI (300 * c + k))), some (aI (nI (pyK (zg l) k))), some (aI (b01 ((pSk (zg l) k).2 (zg l k).2.1))), l6] [aI (nI e), aR 108] N4 := by
          intro e he l6
          have e8 : e < 8 := by
            rw [he]
            unfold mgT
            split
            · exact Nat.mod_lt _ (by decide)
            · exact t8
          have key := ct_le (d := d + 1) (M := N4) (n := n) (l := mgL (zg l) l.length k) (w := (zg l k).2.1) (e := e) e64 hn e8
          rw [llw_d hL4] at key
          refine am_run hX 5 _ _ _ _ ?_
          conv => whnf
          refine ⟨hIa, ?_⟩
          conv => whnf
          rw [nI_clamp (n := 300 * c + k) (by omega), u3]
          refine am_c0 key ?_
          conv => whnf
          refine hnx _ _ _ _ _ (mqF_t hF4 (mqF_l _)) ?_ (fun p hp => ?_)
          · rw [hmg, if_pos hphB, if_neg (by rw [hsee]; decide), ← he]
            exact llw_l N4 n _
          · rw [ll_r _ _ _ (by decide) (by omega), f4.1 135 (by decide) (by decide)]
            exact s3 p hp
        refine am_run hX 4 _ _ _ _ ?_
        conv => whnf
        cases htu : (pSk (zg l) k).2 (zg l k).2.1 with
        | true =>
          rw [htu] at hfin
          refine ⟨fun q => absurd q (by decide), fun _ => ?_⟩
          refine am_run hX 6 _ _ _ _ ?_
          conv => whnf
          rw [show (8 : Int32) = nI 8 from rfl, nI_sub (by omega), nI_m7]
          refine hfin _ ?_ _
          unfold mgT
          rw [htu]
          rfl
        | false =>
          rw [htu] at hfin
          refine ⟨fun _ => ?_, fun q => absurd rfl q⟩
          refine am_run hX 1 _ _ _ _ ?_
          conv => whnf
          refine hfin _ ?_ _
          unfold mgT
          rw [htu]
          rfl
    · have heg := Decidable.byContradiction heg
      have hphB : phB (zg l k) = false := decide_eq_false (fun q => q heg)
      have key := ct_layL (d := d + 2) (M := N) (n := n) (l := mgL (zg l) l.length k) (x := zg l k) e6 hn (by have := gk.1.1; omega)
      rw [llw_d hL, pk.2.1, pk.2.2] at key
      refine am_run hX 21 _ _ _ _ ?_
      conv => whnf
      refine ⟨hIa, ?_⟩
      conv => whnf
      refine ⟨hIa, ?_⟩
      conv => whnf
      refine ⟨hIa, ?_⟩
      conv => whnf
      refine ⟨hIa, ?_⟩
      conv => whnf
      rw [nI_clamp (n := 300 * c + k) (by omega), r2, r3, r4, r5]
      refine am_c0 key ?_
      conv => whnf
      refine hnx _ _ _ _ _ (mqF_t hF (mqF_l _)) ?_ (fun p hp => ?_)
      · rw [hmg, hphB]
        exact llw_l N n _
      · rw [ll_r _ _ _ (by decide) (by omega), hS p hp, hse p, hphB, Bool.false_and, Bool.or_false]
set_option maxRecDepth 100000 in
theorem ct_mergeR (hcn : c < n) (hn : n < 20) (h6 : M.1 108 6 = nI n) (hW : W ≤ 8) (h111 : M.1 111 c = nI l.length) (s300 : l.length ≤ 300) (hr : ∀ j, j < l.length → rfO M (300 * c + j) (zg l j)) (ho : allO W l) (hL : llw M n []) : am_M (d + 4) false nm_X12_merge [aR 108, aI (nI c)] M (fun r N => r = .inl none ∧ mqF n M N ∧ llw N n (mgL (zg l) l.length l.length)) := by
  refine ⟨rfl, rfl, rfl, fun X hX => am_run hX 2 _ _ _ _ ?_⟩
  conv => whnf
  refine mt_0 (M := M) hX (fun N hF h2 hc => ?_) 256 0 M (by omega) (fun _ _ => rfl) rfl (fun p hp => absurd hp (Nat.not_lt_zero _))
  refine am_run hX 2 _ _ _ _ ?_
  conv => whnf
  have hF' : mqF n M N := ⟨fun k a b c => hF k (by omega), h2, fun y _ _ _ => by rw [hF 108 (by decide)], fun k a b c _ => by rw [hF k (by omega)]⟩
  exact mt_i (d := d) (M := M) hX hcn hn h6 hW h111 s300 hr ho (fun K a b => ⟨rfl, a, b⟩) l.length 0 N none none none none (by omega) hF' (llw_f hL (hF 108 (by decide)) (fun k a b => hF k (by omega))) (fun p hp => hc p hp)
end MRT
