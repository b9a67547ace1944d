/-! ROUTE: the reference goes on and visits -/
def wfF (M N : mm_M) : Prop := (∀ k, k ≠ 108 → (k < 196 ∨ 201 < k) → N.1 k = M.1 k) ∧ N.2 = M.2 ∧ ∀ y, y ≠ 146 → N.1 108 y = M.1 108 y
theorem wfF_r (M : mm_M) : wfF M M := ⟨fun _ _ _ => rfl, rfl, fun _ _ => rfl⟩
theorem wfF_t {M N K : mm_M} (h : wfF M N) (g : wfF N K) : wfF M K := ⟨fun k a b => (g.1 k a b).trans (h.1 k a b), g.2.1.trans h.2.1, fun y a => (g.2.2 y a).trans (h.2.2 y a)⟩
theorem wfF_b {M N : mm_M} (h : rbF M N) : wfF M N := ⟨fun k _ b => h.1 k (by omega), h.2, fun y _ => by rw [h.1 108 (by decide)]⟩
theorem wfF_i {M : mm_M} {k : Nat} {f : Nat → Int32} (h : 196 ≤ k ∧ k ≤ 201) : wfF M (mm_i M k f) := ⟨fun j _ b => mm_ne _ _ _ _ (by omega), rfl, fun y _ => by rw [mm_ne _ _ _ _ (by omega)]⟩
/-- the circuit that is looked at, and the CHIP -/
def rtH (M : mm_M) (c W : Nat) (l : List bk_X) (Lk : Nat → Nat → Bool) : Prop := c < 20 ∧ (1 ≤ W ∧ W ≤ 6) ∧ opsL M c W l ∧ M.1 110 c = nI W ∧ lkR M Lk ∧ allO W l ∧ ∀ j, j < l.length → wnX (zg l j) ≤ 2
theorem rtH_f {M N : mm_M} {c W : Nat} {l : List bk_X} {Lk : Nat → Nat → Bool} (h : wfF M N) (g : rtH M c W l Lk) : rtH N c W l Lk := by
  obtain ⟨g1, g2, g3, g4, g5, g6, g7⟩ := g
  have e : ∀ k, k = 10 ∨ k = 11 ∨ (110 ≤ k ∧ k ≤ 117) ∨ k = 195 → N.1 k = M.1 k := fun k hk => h.1 k (by omega) (by omega)
  refine ⟨g1, g2, ?_, by rw [e 110 (by omega)]; exact g4, fun a b ha hb => by rw [e 195 (by omega)]; exact g5 a b ha hb, g6, g7⟩
  unfold opsL bk_o at g3 ⊢
  rw [e 10 (by omega), e 11 (by omega), e 111 (by omega), e 112 (by omega), e 113 (by omega), e 114 (by omega), e 115 (by omega), e 116 (by omega), e 117 (by omega)]
  exact g3
theorem pc_0 : ∀ n, n < 256 → pc n = 0 → n = 0 := by decide +kernel
theorem pcz0 : pc 0 = 0 := by decide
theorem lw_lt {n W : Nat} (hW : W ≤ 8) (h : n < 2 ^ W) (h0 : n ≠ 0) : lw n < W := by
  have h8 := w256 hW
  obtain ⟨_, b, _⟩ := lw_r n (by omega) (by omega)
  apply Classical.byContradiction
  intro z
  have := Nat.testBit_lt_two_pow (Nat.lt_of_lt_of_le h (Nat.pow_le_pow_right (by decide : 0 < 2) (show W ≤ lw n by omega)))
  rw [this] at b
  exact absurd b (by decide)
theorem prX_n {x : bk_X} (h8 : x.2.2.2.1 < 256) (h : wnX x = 1) : prX x = none := by
  unfold wnX at h
  by_cases c : x.1 = 8
  · rw [if_pos c] at h
    omega
  · rw [if_neg c] at h
    unfold prX
    rw [if_neg c, if_pos (pc_0 _ h8 (by omega))]
theorem prX_w {W : Nat} {x : bk_X} (hW : W ≤ 6) (ho : ogd W x) {a b : Nat} (h : prX x = some (a, b)) : a < W ∧ b < W ∧ a ≠ b := by
  have w8 := w256 (show W ≤ 8 by omega)
  unfold prX at h
  by_cases c : x.1 = 8
  · rw [if_pos c] at h
    cases h
    have := ho.2.2 c
    exact ⟨ho.1.2.1, this.1, this.2.1⟩
  · rw [if_neg c] at h
    by_cases c2 : x.2.2.2.1 = 0
    · rw [if_pos c2] at h
      cases h
    · rw [if_neg c2] at h
      cases h
      exact ⟨ho.1.2.1, lw_lt (by omega) ho.1.2.2.2.1 c2, fun e => (lw_w (show W ≤ 8 by omega) ho c2).2 e.symm⟩
section RTE
variable {d : Nat} {M : mm_M} {c W : Nat} {l : List bk_X} {Lk : Nat → Nat → Bool} {p : List Nat}
/-- OPS as pairs of WIRES -/
def rtPp (l : List bk_X) (k : Nat) : Option (Nat × Nat) := prX (zg l k)
theorem rtPp_O (h : rtH M c W l Lk) : rtO (rtPp l) l.length W := fun k a b hk e => by
  have := prX_w h.2.1.2 (h.2.2.2.2.2.1 k hk).1 e
  exact ⟨this.1, this.2.1⟩
set_option maxRecDepth 100000 in
theorem ct_isNr {k : Nat} (h : rtH M c W l Lk) (ha : arr W p) (hp : plR M p) (hk : k < l.length) : am_M (d + 3) false nm_X12_isNear [aR 108, aI (nI (300 * c + k))] M (am_q1 (aI (b01 (rtQq Lk (rtPp l) p k))) M) := by
  obtain ⟨c20, ⟨_, hW⟩, hl, h110, hL, hO, hX2⟩ := h
  have hl3 := hl.2.2.1
  obtain ⟨ow, _, o2, o3, o4, o5, _⟩ := hl.2.2.2 k hk
  have ho := (hO k hk).1
  have h2 := hX2 k hk
  have w8 := w256 (show W ≤ 8 by omega)
  have c8 := ow.2.2.2.1
  have wW := ow.2.1
  have wl : ∀ a, a < W → a < p.length := fun a h => by rw [ha.1]; exact h
  have hin : vp_in (nI (300 * c + k)) 6300 := vp_in_nI (by omega) (by decide)
  refine ⟨rfl, rfl, rfl, fun X hX => am_run hX 9 _ _ _ _ ?_⟩
  conv => whnf
  refine ⟨hin, ?_⟩
  conv => whnf
  refine ⟨hin, ?_⟩
  conv => whnf
  rw [nI_clamp (n := 300 * c + k) (by omega), o2, o5]
  refine am_c1 (ct_wOfR (d := d) ow.1 (by omega)) ?_
  have hw1 : 1 ≤ wnX (zg l k) := by unfold wnX; omega
  refine am_run hX 2 _ _ _ _ ?_
  conv => whnf
  rw [show (1 : Int32) = nI 1 from rfl, nI_eq (by omega) (by decide)]
  refine ⟨fun z => ?_, fun z => ?_⟩
  · -- two WIRES
    have fin : ∀ b, prX (zg l k) = some ((zg l k).2.1, b) → b < W → X 50 [some (aR 108), some (aI (nI (300 * c + k))), none] [aI (nI b)] M := by
      intro b eb hb
      have p1 := l6 ha wW
      have p2 := l6 ha hb
      refine am_run hX 19 _ _ _ _ ?_
      conv => whnf
      refine ⟨hin, ?_⟩
      conv => whnf
      rw [nI_clamp (n := 300 * c + k) (by omega), o3]
      refine ⟨vp_in_nI (by show (zg l k).2.1 < 6; omega) (by decide), ?_⟩
      conv => whnf
      refine ⟨vp_in_nI (by show b < 6; omega) (by decide), ?_⟩
      conv => whnf
      rw [nI_clamp (n := (zg l k).2.1) (by omega), nI_clamp (n := b) (by omega), hp _ (wl _ wW), hp _ (wl _ hb), show (6 : Int32) * nI (p.getD (zg l k).2.1 0) + nI (p.getD b 0) = nI (6 * p.getD (zg l k).2.1 0 + p.getD b 0) from by rw [show (6 : Int32) = nI 6 from rfl, nI_mul, nI_add]]
      refine ⟨vp_in_nI (by show _ < 36; omega) (by decide), ?_⟩
      conv => whnf
      rw [nI_clamp (n := 6 * p.getD (zg l k).2.1 0 + p.getD b 0) (by omega), hL _ _ p1 p2]
      have eq : rtQq Lk (rtPp l) p k = Lk (p.getD (zg l k).2.1 0) (p.getD b 0) := by
        unfold rtQq rtPp
        rw [eb]
        rfl
      rw [eq]
      cases Lk (p.getD (zg l k).2.1 0) (p.getD b 0)
      · exact ⟨rfl, rfl, rfl⟩
      · exact ⟨rfl, rfl, rfl⟩
    refine am_run hX 6 _ _ _ _ ?_
    conv => whnf
    refine ⟨hin, ?_⟩
    conv => whnf
    rw [nI_clamp (n := 300 * c + k) (by omega), o2, show (8 : Int32) = nI 8 from rfl, nI_eq (by have := ow.1; omega) (by decide)]
    refine ⟨fun y => ?_, fun y => ?_⟩
    · have c0 : (zg l k).2.2.2.1 ≠ 0 := fun q => z (by
        unfold wnX
        rw [q, pcz0, if_neg y])
      refine am_run hX 5 _ _ _ _ ?_
      conv => whnf
      refine ⟨hin, ?_⟩
      conv => whnf
      rw [nI_clamp (n := 300 * c + k) (by omega), o5]
      refine am_c1 (ct_rlow (d := d + 1) (by omega) (by omega)) ?_
      refine fin _ ?_ (lw_lt (by omega) c8 c0)
      unfold prX
      rw [if_neg y, if_neg c0]
    · have y := Decidable.byContradiction y
      refine am_run hX 5 _ _ _ _ ?_
      conv => whnf
      refine ⟨hin, ?_⟩
      conv => whnf
      rw [nI_clamp (n := 300 * c + k) (by omega), o4]
      refine fin _ ?_ (ho.2.2 y).1
      unfold prX
      rw [if_pos y]
  · have z := Decidable.byContradiction z
    have eq : rtQq Lk (rtPp l) p k = true := by
      unfold rtQq rtPp
      rw [prX_n (by omega) z]
      rfl
    rw [eq] at hX
    refine am_run hX 2 _ _ _ _ ?_
    conv => whnf
    exact ⟨rfl, rfl, rfl⟩
set_option maxRecDepth 100000 in
theorem go_l {P : am_Q} {X : am_X} {v2 : Int32} {x : Nat} (hX : am_K (d + 3) false nm_X12_goOn P X) (h : rtH M c W l Lk) (ha : arr W p) (hp : plR M p) (hP : P (.inl (some (aI (nI x)))) M) : ∀ (m k : Nat), k + m = l.length → adv (rtQq Lk (rtPp l) p) l.length k = x → X 2 [some (aR 108), some (aI (nI c)), some (aI v2), some (aI (nI k))] [] M := by
  have c20 := h.1
  have hl := h.2.2.1
  have hl3 := hl.2.2.1
  intro m
  induction m with
  | zero =>
    intro k hk e
    obtain rfl : k = l.length := by omega
    rw [ad_o (Nat.le_refl _)] at e
    subst e
    refine am_run hX 6 _ _ _ _ ?_
    conv => whnf
    refine ⟨vp_in_nI (by show c < 21; omega) (by decide), ?_⟩
    conv => whnf
    rw [nI_clamp (n := c) (by omega), hl.2.1]
    refine ⟨fun _ => ?_, fun z => absurd (nI_le (Nat.le_refl _) (by omega)) z⟩
    refine am_run hX 2 _ _ _ _ ?_
    conv => whnf
    exact ⟨trivial, hP⟩
  | succ m ih =>
    intro k hk e
    have kl : k < l.length := by omega
    refine am_run hX 6 _ _ _ _ ?_
    conv => whnf
    refine ⟨vp_in_nI (by show c < 21; omega) (by decide), ?_⟩
    conv => whnf
    rw [nI_clamp (n := c) (by omega), hl.2.1]
    refine ⟨fun z => absurd z (nI_ge (by omega) (by omega)), fun _ => ?_⟩
    refine am_run hX 7 _ _ _ _ ?_
    conv => whnf
    rw [show (300 : Int32) * nI c + nI k = nI (300 * c + k) from by rw [show (300 : Int32) = nI 300 from rfl, nI_mul, nI_add]]
    refine am_c1 (ct_isNr (d := d) h ha hp kl) ?_
    refine am_run hX 1 _ _ _ _ ?_
    conv => whnf
    cases hq : rtQq Lk (rtPp l) p k with
    | true =>
      refine ⟨fun z => absurd z (by decide), fun _ => ?_⟩
      refine am_run hX 2 _ _ _ _ ?_
      conv => whnf
      rw [nI_1]
      exact ih (k + 1) (by omega) (by rw [← e, ad_s hq kl])
    | false =>
      refine ⟨fun _ => ?_, fun z => absurd rfl z⟩
      rw [ad_z hq] at e
      subst e
      refine am_run hX 2 _ _ _ _ ?_
      conv => whnf
      exact ⟨trivial, hP⟩
set_option maxRecDepth 100000 in
theorem ct_goOn {k : Nat} (h : rtH M c W l Lk) (ha : arr W p) (hp : plR M p) (hk : k ≤ l.length) : am_M (d + 4) false nm_X12_goOn [aR 108, aI (nI c), aI (nI k)] M (am_q1 (aI (nI (adv (rtQq Lk (rtPp l) p) l.length k))) M) := by
  refine ⟨rfl, rfl, rfl, fun X hX => am_run hX 2 _ _ _ _ ?_⟩
  conv => whnf
  exact go_l (d := d) (M := M) hX h ha hp ⟨rfl, rfl⟩ (l.length - k) k (by omega) rfl
/-- the rows of what was visited -/
def wyE (N : mm_M) (W S n : Nat) (T : Nat → List Nat × Nat) (fr yb : Nat → Nat) : Prop := N.1 108 146 = nI n ∧ (∀ i, i < n → arr W (T i).1 ∧ (T i).2 ≤ S ∧ N.1 198 i = nI (pk6 (T i).1) ∧ N.1 199 i = nI (T i).2 ∧ N.1 200 i = (if i = 0 then -1 else nI (fr i)) ∧ (0 < i → N.1 201 i = nI (yb i))) ∧ (∀ q, q < 46656 → (N.1 197 q = -1 ∧ ∀ i, i < n → pk6 (T i).1 ≠ q) ∨ (∃ i, i < n ∧ pk6 (T i).1 = q ∧ N.1 197 q = nI (T i).2 ∧ ∀ j, j < n → pk6 (T j).1 = q → (T j).2 ≤ (T i).2)) ∧ ∀ i j, i < n → j < n → (T i).1 = (T j).1 → (T i).2 = (T j).2 → i = j
theorem wy_n {N : mm_M} {S n : Nat} {T : Nat → List Nat × Nat} {fr yb : Nat → Nat} (hW : W ≤ 6) (hS : S ≤ 300) (h : wyE N W S n T fr yb) : n ≤ 216720 := by
  refine phoN 216720 n (fun i => 301 * rkP (T i).1 + (T i).2) (fun i hi => ?_) (fun i j hi hj e => ?_)
  · have a := (rkP_u hW (h.2.1 i hi).1).1
    have b := (cnW_7 W (by omega)).1
    have c := (h.2.1 i hi).2.1
    show 301 * rkP (T i).1 + (T i).2 < 216720
    omega
  · have c := (h.2.1 i hi).2.1
    have c' := (h.2.1 j hj).2.1
    have e : 301 * rkP (T i).1 + (T i).2 = 301 * rkP (T j).1 + (T j).2 := e
    have e1 : rkP (T i).1 = rkP (T j).1 := by omega
    exact h.2.2.2 i j hi hj (rkP_i hW (h.2.1 i hi).1 (h.2.1 j hj).1 e1) (by omega)
def upS (T : Nat → List Nat × Nat) (n : Nat) (k : List Nat × Nat) (i : Nat) : List Nat × Nat := if i = n then k else T i
def upN (f : Nat → Nat) (n v i : Nat) : Nat := if i = n then v else f i
/-- visiting: nothing new, or one row more -/
def vsQ (M : mm_M) (W S n : Nat) (T : Nat → List Nat × Nat) (fr yb : Nat → Nat) (k : List Nat × Nat) (f e : Nat) (N : mm_M) : Prop := wfF M N ∧ ((wyE N W S n T fr yb ∧ ∃ i, i < n ∧ rtR (T i) k) ∨ (wyE N W S (n + 1) (upS T n k) (upN fr n f) (upN yb n e)))
set_option maxRecDepth 200000 in
theorem ct_vis {n : Nat} {T : Nat → List Nat × Nat} {fr yb : Nat → Nat} {f e s : Nat} {vf : Int32} (h : rtH M c W l Lk) (ha : arr W p) (hp : plR M p) (hs : s ≤ l.length) (hE : wyE M W l.length n T fr yb) (hf : vf = if n = 0 then -1 else nI f) (he : e < 36) : am_M (d + 5) false nm_X12_visit [aR 108, aI (nI c), aI vf, aI (nI e), aI (nI s)] M (fun r N => r = .inl none ∧ vsQ M W l.length n T fr yb (p, adv (rtQq Lk (rtPp l) p) l.length s) f e N) := by
  have c20 := h.1
  have hW := h.2.1.2
  have hl := h.2.2.1
  have hl3 := hl.2.2.1
  have hn := wy_n hW hl3 hE
  have hd := ad_le (Q := rtQq Lk (rtPp l) p) hs
  have hpk : pk6 p < 46656 := Nat.lt_of_lt_of_le (pk6_l p ha.2.1) (by rw [ha.1]; exact Nat.pow_le_pow_right (by decide) hW)
  generalize hx : adv (rtQq Lk (rtPp l) p) l.length s = x at hd
  refine ⟨rfl, rfl, rfl, fun X hX => am_run hX 4 _ _ _ _ ?_⟩
  conv => whnf
  refine am_c1 (ct_goOn (d := d) h ha hp hs) ?_
  rw [hx]
  refine am_run hX 7 _ _ _ _ ?_
  conv => whnf
  refine ⟨vp_in_nI (by show c < 21; omega) (by decide), ?_⟩
  conv => whnf
  rw [nI_clamp (n := c) (by omega), h.2.2.2.1]
  refine am_c1 (ct_pck (d := d + 3) hW ha hp) ?_
  refine am_run hX 7 _ _ _ _ ?_
  conv => whnf
  refine ⟨vp_in_nI hpk (by decide), ?_⟩
  conv => whnf
  rw [nI_clamp (n := pk6 p) (by omega)]
  have same : ∀ i, i < n → pk6 (T i).1 = pk6 p → (T i).1 = p := fun i hi e' => by
    have g := (hE.2.1 i hi).1
    exact pk6_i _ _ (by rw [g.1, ha.1]) g.2.1 ha.2.1 e'
  -- a new row
  have new : (∀ j, j < n → (T j).1 = p → (T j).2 < x) → X 34 [some (aR 108), some (aI (nI c)), some (aI vf), some (aI (nI e)), some (aI (nI s)), some (aI (nI x)), some (aI (nI (pk6 p)))] [] M := by
    intro hlt
    have hin : vp_in (nI n) 217000 := vp_in_nI (by omega) (by decide)
    have t0 := hE.1
    refine am_run hX 5 _ _ _ _ ?_
    conv => whnf
    refine ⟨vp_in_nI hpk (by decide), ?_⟩
    rw [nI_clamp (n := pk6 p) (by omega)]
    generalize hN1 : mm_i M 197 _ = N1
    have a1 : ∀ k, k ≠ 197 → N1.1 k = M.1 k := fun k hk => by rw [← hN1, mm_ne _ _ _ _ hk]
    refine am_run hX 6 _ _ _ _ ?_
    conv => whnf
    rw [a1 108 (by decide), t0]
    refine ⟨hin, ?_⟩
    rw [nI_clamp (n := n) (by omega)]
    generalize hN2 : mm_i N1 198 _ = N2
    have a2 : ∀ k, k ≠ 198 → N2.1 k = N1.1 k := fun k hk => by rw [← hN2, mm_ne _ _ _ _ hk]
    refine am_run hX 6 _ _ _ _ ?_
    conv => whnf
    rw [a2 108 (by decide), a1 108 (by decide), t0]
    refine ⟨hin, ?_⟩
    rw [nI_clamp (n := n) (by omega)]
    generalize hN3 : mm_i N2 199 _ = N3
    have a3 : ∀ k, k ≠ 199 → N3.1 k = N2.1 k := fun k hk => by rw [← hN3, mm_ne _ _ _ _ hk]
    refine am_run hX 6 _ _ _ _ ?_
    conv => whnf
    rw [a3 108 (by decide), a2 108 (by decide), a1 108 (by decide), t0]
    refine ⟨hin, ?_⟩
    rw [nI_clamp (n := n) (by omega)]
    generalize hN4 : mm_i N3 200 _ = N4
    have a4 : ∀ k, k ≠ 200 → N4.1 k = N3.1 k := fun k hk => by rw [← hN4, mm_ne _ _ _ _ hk]
    refine am_run hX 6 _ _ _ _ ?_
    conv => whnf
    rw [a4 108 (by decide), a3 108 (by decide), a2 108 (by decide), a1 108 (by decide), t0]
    refine ⟨hin, ?_⟩
    rw [nI_clamp (n := n) (by omega)]
    generalize hN5 : mm_i N4 201 _ = N5
    have a5 : ∀ k, k ≠ 201 → N5.1 k = N4.1 k := fun k hk => by rw [← hN5, mm_ne _ _ _ _ hk]
    have e5 : N5.1 108 = M.1 108 := by rw [a5 108 (by decide), a4 108 (by decide), a3 108 (by decide), a2 108 (by decide), a1 108 (by decide)]
    refine am_run hX 7 _ _ _ _ ?_
    conv => whnf
    rw [e5, t0, nI_1]
    generalize hN6 : mm_i N5 108 _ = N6
    have a6 : ∀ k, k ≠ 108 → N6.1 k = N5.1 k := fun k hk => by rw [← hN6, mm_ne _ _ _ _ hk]
    have r7 : N6.1 197 = upd (M.1 197) (pk6 p) (nI x) := by rw [a6 197 (by decide), a5 197 (by decide), a4 197 (by decide), a3 197 (by decide), a2 197 (by decide), ← hN1, mm_i1]
    have r8 : N6.1 198 = upd (M.1 198) n (nI (pk6 p)) := by rw [a6 198 (by decide), a5 198 (by decide), a4 198 (by decide), a3 198 (by decide), ← hN2, mm_i1, a1 198 (by decide)]
    have r9 : N6.1 199 = upd (M.1 199) n (nI x) := by rw [a6 199 (by decide), a5 199 (by decide), a4 199 (by decide), ← hN3, mm_i1, a2 199 (by decide), a1 199 (by decide)]
    have r10 : N6.1 200 = upd (M.1 200) n vf := by rw [a6 200 (by decide), a5 200 (by decide), ← hN4, mm_i1, a3 200 (by decide), a2 200 (by decide), a1 200 (by decide)]
    have r11 : N6.1 201 = upd (M.1 201) n (nI e) := by rw [a6 201 (by decide), ← hN5, mm_i1, a4 201 (by decide), a3 201 (by decide), a2 201 (by decide), a1 201 (by decide)]
    have r0 : N6.1 108 146 = nI (n + 1) := by rw [← hN6, mm_i1]; exact up_at
    refine ⟨trivial, rfl, ⟨fun k b c => ?_, ?_, fun y hy => ?_⟩, Or.inr ⟨r0, fun i hi => ?_, fun q hq => ?_, fun i j hi hj e1 e2 => ?_⟩⟩
    · rw [a6 k b, a5 k (by omega), a4 k (by omega), a3 k (by omega), a2 k (by omega), a1 k (by omega)]
    · rw [← hN6, ← hN5, ← hN4, ← hN3, ← hN2, ← hN1]
      rfl
    · rw [← hN6, mm_i1, up_ne hy]
    · unfold upS upN
      rw [r8, r9, r10, r11]
      by_cases c : i = n
      · subst c
        rw [if_pos rfl, if_pos rfl, if_pos rfl, up_at, up_at, up_at, up_at]
        exact ⟨ha, hd, rfl, rfl, hf, fun _ => rfl⟩
      · rw [if_neg c, if_neg c, if_neg c, up_ne c, up_ne c, up_ne c, up_ne c]
        exact hE.2.1 i (by omega)
    · rw [r7]
      by_cases c : q = pk6 p
      · subst c
        refine Or.inr ⟨n, by omega, ?_, ?_, fun j hj ej => ?_⟩
        · show pk6 (upS T n (p, x) n).1 = _
          unfold upS
          rw [if_pos rfl]
        · unfold upS
          rw [if_pos rfl]
          exact up_at
        · unfold upS at ej ⊢
          rw [if_pos rfl]
          by_cases c2 : j = n
          · rw [if_pos c2]
            exact Nat.le_refl _
          · rw [if_neg c2] at ej ⊢
            exact Nat.le_of_lt (hlt j (by omega) (same j (by omega) ej))
      · rw [up_ne c]
        rcases hE.2.2.1 q hq with ⟨b1, b2⟩ | ⟨i, b1, b2, b3, b4⟩
        · refine Or.inl ⟨b1, fun i hi => ?_⟩
          unfold upS
          by_cases c2 : i = n
          · rw [if_pos c2]
            exact fun z => c z.symm
          · rw [if_neg c2]
            exact b2 i (by omega)
        · refine Or.inr ⟨i, by omega, ?_, ?_, fun j hj ej => ?_⟩
          · unfold upS
            rw [if_neg (by omega)]
            exact b2
          · unfold upS
            rw [if_neg (by omega)]
            exact b3
          · unfold upS at ej ⊢
            rw [if_neg (show ¬ i = n by omega)]
            by_cases c2 : j = n
            · rw [if_pos c2] at ej
              exact absurd ej.symm c
            · rw [if_neg c2] at ej ⊢
              exact b4 j (by omega) ej
    · unfold upS at e1 e2
      by_cases ci : i = n
      · by_cases cj : j = n
        · rw [ci, cj]
        · rw [if_pos ci, if_neg cj] at e1 e2
          have := hlt j (by omega) e1.symm
          have e2 : x = (T j).2 := e2
          omega
      · by_cases cj : j = n
        · rw [if_neg ci, if_pos cj] at e1 e2
          have := hlt i (by omega) e1
          have e2 : (T i).2 = x := e2
          omega
        · rw [if_neg ci, if_neg cj] at e1 e2
          exact hE.2.2.2 i j (by omega) (by omega) e1 e2
  rcases hE.2.2.1 (pk6 p) hpk with ⟨b1, b2⟩ | ⟨i, b1, b2, b3, b4⟩
  · rw [b1]
    refine ⟨fun _ => new (fun j hj e' => absurd (by rw [e']) (b2 j hj)), fun z => absurd ?_ z⟩
    exact Int32.lt_of_lt_of_le (show (-1 : Int32) < nI 0 by decide) (nI_le (Nat.zero_le _) (by omega))
  · have hi2 := (hE.2.1 i b1).2.1
    rw [b3]
    refine ⟨fun z => new (fun j hj e' => ?_), fun z => ?_⟩
    · have h4 := b4 j hj (by rw [e'])
      have : (T i).2 < x := Classical.byContradiction fun q => absurd z (nI_nlt (by omega) (by omega))
      omega
    · have hle : x ≤ (T i).2 := Classical.byContradiction fun q => z (nI_lt (by omega) (by omega))
      refine am_run hX 1 _ _ _ _ ?_
      conv => whnf
      exact ⟨trivial, rfl, wfF_r M, Or.inl ⟨hE, i, b1, same i b1 b2, hle⟩⟩
end RTE
