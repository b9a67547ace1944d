/-! DIAGRAMS: pivot at the class, whole -/
theorem not_b {x : Int64} {j : Nat} (hj : j < 64) : (x ^^^ -1).toBitVec.getLsbD j = !x.toBitVec.getLsbD j := by
  show (x.toBitVec ^^^ (-1 : Int64).toBitVec).getLsbD j = _
  have e : (-1 : Int64).toBitVec.getLsbD j = true := by
    have : ∀ j, j < 64 → (-1 : Int64).toBitVec.getLsbD j = true := by decide +kernel
    exact this j hj
  rw [BitVec.getLsbD_xor, e, Bool.xor_true]
theorem b_s4 {s : Nat} (h : s ≤ 3) : s = 0 ∨ s = 1 ∨ s = 2 ∨ s = 3 := by omega
theorem Dc_end {s : Nat → Nat} {m : Nat} (hm : ∀ y, s y ≠ 0 → y < m) (h3 : ∀ x, s x ≤ 3) : ∀ x y, Dc s m 0 x y = decide (dfS s x y) := fun x y => by
  rw [Bool.eq_iff_iff]
  constructor
  · intro h
    exact decide_eq_true (Dc_df h)
  · intro h
    obtain ⟨h1, h2, h4⟩ := of_decide_eq_true h
    have p : prS s x y ∨ prS s y x := by
      rcases b_s4 (h3 x) with e | e | e | e
      · exact absurd e h1
      · rcases b_s4 (h3 y) with f | f | f | f
        · exact absurd f h2
        · exact absurd (e.trans f.symm) h4
        · exact Or.inl (Or.inr ⟨e, f⟩)
        · exact Or.inr (Or.inl ⟨f, Or.inl e⟩)
      · rcases b_s4 (h3 y) with f | f | f | f
        · exact absurd f h2
        · exact Or.inr (Or.inr ⟨f, e⟩)
        · exact absurd (e.trans f.symm) h4
        · exact Or.inr (Or.inl ⟨f, Or.inr e⟩)
      · rcases b_s4 (h3 y) with f | f | f | f
        · exact absurd f h2
        · exact Or.inl (Or.inl ⟨e, Or.inl f⟩)
        · exact Or.inl (Or.inl ⟨e, Or.inr f⟩)
        · exact absurd (e.trans f.symm) h4
    refine decide_eq_true ?_
    rcases p with p | p
    · exact Or.inl ⟨hm x h1, p⟩
    · exact Or.inr (Or.inl ⟨hm y h2, p⟩)
section PVE
variable {d m inp a b i : Nat} {N : mm_M} {W : WB} {vA vB : Int64} {f : Int32}
theorem gr_st {x p k : Nat} (hk : x = i → k = 0) (h : N.1 42 x = nI p) (hp : p < 8) : (grM N i k).1 42 x = nI p := by
  show upd (N.1 42) i ((N.1 42 i + nI k) &&& 7) x = nI p
  unfold upd
  by_cases e : x = i
  · rw [if_pos e, ← e, h, hk e, nI_add, nI_m7, Nat.add_zero, Nat.mod_eq_of_lt hp]
  · rw [if_neg e]
    exact h
theorem amW_1 {x : Nat} (h : sdW W a b x = 1) : amW W a b x = W.2.1 b + 0 + 0 := if_pos h
theorem amW_2 {x : Nat} (h : sdW W a b x = 2) : amW W a b x = 0 + W.2.1 a + 0 := by
  unfold amW
  rw [if_neg (by rw [h]; decide), if_pos h]
  omega
theorem amW_3 {x : Nat} (h : sdW W a b x = 3) : amW W a b x = W.2.1 b + W.2.1 a + 4 := by
  unfold amW
  rw [if_neg (by rw [h]; decide), if_neg (by rw [h]; decide), if_pos h]
  omega
theorem amW_0 {x : Nat} (h : sdW W a b x = 0) : amW W a b x = 0 + 0 + 0 := by
  unfold amW
  rw [if_neg (by rw [h]; decide), if_neg (by rw [h]; decide), if_neg (by rw [h]; decide)]
theorem sd_a : sdW W a b a = 0 := if_pos (Or.inl rfl)
theorem sd_b : sdW W a b b = 0 := if_pos (Or.inr rfl)
set_option maxRecDepth 100000 in
theorem pv_l {N0 : mm_M} {Pp : am_Q} {X : am_X} (hX : am_K (d + 3) false nm_X10_pivot Pp X) (g : gdW m inp W) (ia : inW inp W a) (ib : inW inp W b) (hn : npP W a b) (hA : ∀ j, j < 64 → vA.toBitVec.getLsbD j = decide (sdW W a b j = 1 ∨ sdW W a b j = 3)) (hB : ∀ j, j < 64 → vB.toBitVec.getLsbD j = decide (sdW W a b j = 2 ∨ sdW W a b j = 3)) (hP : ∀ N, cwK N0 N → cwR N m inp (pvW W a b m) → Pp (.inl (some (aI 1))) N) : ∀ w i N l11 l12, i + w = m → cwK N0 N → cwR N m inp (pvS W a b (Dc (sdW W a b) i 0) i) → N.1 42 a = nI (W.2.1 a) → N.1 42 b = nI (W.2.1 b) → X 144 [some (aR 39), some (aI (nI a)), some (aI (nI b)), some (aJ vA), none, some (aJ vB), none, some (aI f), some (aJ (vA &&& vB)), none, some (aI (nI i)), l11, l12] [] N := by
  have m60 := g.1
  have la := g.2.2.2.2.1 a ia.1
  have lb := g.2.2.2.2.1 b ib.1
  have pa := g.2.2.2.2.2.2.2.2.2.2 a ia.1
  have pb := g.2.2.2.2.2.2.2.2.2.2 b ib.1
  have hm : ∀ y, sdW W a b y ≠ 0 → y < m := fun y hy => g.2.2.2.2.1 y (nx_T g (sd_nx.mp hy))
  have hC : ∀ j, j < 64 → (vA &&& vB).toBitVec.getLsbD j = decide (sdW W a b j = 3) := fun j hj => by
    rw [Int64.toBitVec_and, BitVec.getLsbD_and, hA j hj, hB j hj, ← Bool.decide_and, decide_eq_decide]
    omega
  intro w
  induction w with
  | zero =>
    intro i N l11 l12 hi hf h _ _
    have hi : i = m := by omega
    subst hi
    refine am_run hX 6 _ _ _ _ ?_
    conv => whnf
    rw [h.1]
    refine ⟨fun _ => ?_, fun c => absurd (nI_le (by omega) (by omega)) c⟩
    conv => whnf
    refine ⟨rfl, hP N hf ?_⟩
    have e : pvS W a b (Dc (sdW W a b) i 0) i = pvW W a b i := by
      show (_, _, tgE _ _) = (_, _, tgE _ _)
      rw [tg_c (Dc_end hm fun x => sd_le)]
    rw [← e]
    exact h
  | succ w ih =>
    intro i N l11 l12 hi hf h qa qb
    have nx : ∀ N' u v, cwK N0 N' → cwR N' m inp (pvS W a b (Dc (sdW W a b) (i + 1) 0) (i + 1)) → N'.1 42 a = nI (W.2.1 a) → N'.1 42 b = nI (W.2.1 b) → X 293 [some (aR 39), some (aI (nI a)), some (aI (nI b)), some (aJ vA), none, some (aJ vB), none, some (aI f), some (aJ (vA &&& vB)), none, some (aI (nI i)), some (aI u), some (aI v)] [] N' := fun N' u v f' h' a' b' => by
      refine am_run hX 2 _ _ _ _ ?_
      conv => whnf
      rw [nI_1]
      exact ih (i + 1) N' _ _ (by omega) f' h' a' b'
    have gr : ∀ k, amW W a b i = k → cwR (grM N i k) m inp (pvS W a b (Dc (sdW W a b) i 0) (i + 1)) ∧ (grM N i k).1 42 a = nI (W.2.1 a) ∧ (grM N i k).1 42 b = nI (W.2.1 b) := fun k hk => by
      have h1 := cwR_gr (a := i) (k := k) h
      refine ⟨?_, gr_st (fun z => ?_) qa pa, gr_st (fun z => ?_) qb pb⟩
      · rw [← hk] at h1 ⊢
        have e : ((pvS W a b (Dc (sdW W a b) i 0) i).1, grw (pvS W a b (Dc (sdW W a b) i 0) i).2.1 i (amW W a b i), (pvS W a b (Dc (sdW W a b) i 0) i).2.2) = pvS W a b (Dc (sdW W a b) i 0) (i + 1) := by
          exact Prod.ext rfl (Prod.ext pvP_s rfl)
        rw [e] at h1
        exact h1
      · rw [← hk, ← z]
        exact amW_0 sd_a
      · rw [← hk, ← z]
        exact amW_0 sd_b
    have no : ∀ N' u v, (∀ y, ¬ prS (sdW W a b) i y) → cwK N0 N' → cwR N' m inp (pvS W a b (Dc (sdW W a b) i 0) (i + 1)) → N'.1 42 a = nI (W.2.1 a) → N'.1 42 b = nI (W.2.1 b) → X 293 [some (aR 39), some (aI (nI a)), some (aI (nI b)), some (aJ vA), none, some (aJ vB), none, some (aI f), some (aJ (vA &&& vB)), none, some (aI (nI i)), some (aI u), some (aI v)] [] N' := fun N' u v hq f' h' a' b' => by
      refine nx N' u v f' ?_ a' b'
      have e : pvS W a b (Dc (sdW W a b) (i + 1) 0) (i + 1) = pvS W a b (Dc (sdW W a b) i 0) (i + 1) := by
        show (_, _, tgE _ _) = (_, _, tgE _ _)
        rw [tg_c (Dc_n hq)]
      rw [e]
      exact h'
    have ja : ∀ (k : Nat) (S : Nat → Bool) (v : Int64), amW W a b i = k → sdW W a b i ≠ 0 → (∀ y, S y = true ↔ prS (sdW W a b) i y) → (∀ j, j < 64 → v.toBitVec.getLsbD j = S j) → am_M (d + 3) false nm_X10_joinAll [aR 39, aI (nI i), aJ v] (grM N i k) (fun r N' => r = .inl none ∧ cwK (grM N i k) N' ∧ cwR N' m inp (pvS W a b (Dc (sdW W a b) (i + 1) 0) (i + 1)) ∧ N'.1 42 a = nI (W.2.1 a) ∧ N'.1 42 b = nI (W.2.1 b)) := fun k S v hk hsi hS hv => by
      obtain ⟨h1, q1, q2⟩ := gr k hk
      have n1 := sd_nx.mp hsi
      refine am_wk (ct_jaC2 (d := d) (S := S) (i := i) (v := v) h1 (pvS_gd g ia.2 ib.2 Dc_sy fun x y z => Dc_df z) (by show (rm2 W a b).1 i = true; rw [rm2_T n1.1 n1.2.1]; exact nx_T g n1) (fun j hj => ?_) hv) ?_
      · have hp := (hS j).mp hj
        have n2 := sd_nx.mp (pr_y hp).1
        refine ⟨by show (rm2 W a b).1 j = true; rw [rm2_T n2.1 n2.2.1]; exact nx_T g n2, fun z => ?_⟩
        rw [z] at hp
        exact (pr_y hp).2.2.1 rfl
      · rintro r N' ⟨k1, k2, k3, k4⟩
        have sf : ∀ x, sdW W a b x = 0 → S x = false := fun x hx => by
          cases hz : S x with
          | false => rfl
          | true => exact absurd hx (pr_y ((hS x).mp hz)).1
        rw [pvS_ja g hn hS] at k3
        refine ⟨k1, k2, k3, ?_, ?_⟩
        · rw [k4 a (fun z => n1.1 z.symm) (sf a sd_a)]
          exact q1
        · rw [k4 b (fun z => n1.2.1 z.symm) (sf b sd_b)]
          exact q2
    refine am_run hX 4 _ _ _ _ ?_
    conv => whnf
    rw [h.1]
    refine ⟨fun c => absurd c (nI_ge (by omega) (by omega)), fun _ => ?_⟩
    have li : i < 64 := by omega
    rcases b_s4 (sd_le (W := W) (a := a) (b := b) (x := i)) with e | e | e | e
    · refine pc_1A (u := 0) hX li (by decide) (by rw [hA i li, e]; rfl) ?_
      refine pc_1B (u := 0) (w := 0) hX li (by decide) (by rw [hB i li, e]; rfl) ?_
      refine pc_200 (d := d + 2) (pa := W.2.1 a) (pb := W.2.1 b) hX (by omega) (by omega) (by omega) qa qb ?_
      obtain ⟨h1, q1, q2⟩ := gr _ (amW_0 e)
      refine pc_30 hX rfl (no _ _ _ (fun y z => (pr_y z).2.1 e) (cwK_t hf cwK_gr) h1 q1 q2)
    · refine pc_1A (u := 1) hX li (by decide) (by rw [hA i li, e]; rfl) ?_
      refine pc_1B (u := 1) (w := 0) hX li (by decide) (by rw [hB i li, e]; rfl) ?_
      refine pc_210 (d := d + 2) (pa := W.2.1 a) (pb := W.2.1 b) hX (by omega) (by omega) (by omega) qa qb ?_
      refine pc_310 hX (ja _ (fun j => decide (sdW W a b j = 2)) _ (amW_1 e) (by rw [e]; decide) (fun y => ?_) (fun j hj => ?_)) ?_
      · rw [decide_eq_true_iff]
        constructor
        · intro z
          exact Or.inr ⟨e, z⟩
        · rintro (⟨z, _⟩ | ⟨_, z⟩)
          · rw [e] at z
            exact absurd z (by decide)
          · exact z
      · rw [Int64.toBitVec_and, BitVec.getLsbD_and, not_b hj, hB j hj, hC j hj, ← decide_not, ← Bool.decide_and, decide_eq_decide]
        omega
      · rintro r N' ⟨k1, k2, k3, k4, k5⟩
        exact ⟨k1, nx N' _ _ (cwK_t hf (cwK_t cwK_gr k2)) k3 k4 k5⟩
    · refine pc_1A (u := 0) hX li (by decide) (by rw [hA i li, e]; rfl) ?_
      refine pc_1B (u := 0) (w := 1) hX li (by decide) (by rw [hB i li, e]; rfl) ?_
      refine pc_201 (d := d + 2) (pa := W.2.1 a) (pb := W.2.1 b) hX (by omega) (by omega) (by omega) qa qb ?_
      obtain ⟨h1, q1, q2⟩ := gr _ (amW_2 e)
      refine pc_30 hX rfl (no _ _ _ (fun y z => ?_) (cwK_t hf cwK_gr) h1 q1 q2)
      rcases z with ⟨z, _⟩ | ⟨z, _⟩
      · rw [e] at z
        exact absurd z (by decide)
      · rw [e] at z
        exact absurd z (by decide)
    · refine pc_1A (u := 1) hX li (by decide) (by rw [hA i li, e]; rfl) ?_
      refine pc_1B (u := 1) (w := 1) hX li (by decide) (by rw [hB i li, e]; rfl) ?_
      refine pc_211 (d := d + 2) (pa := W.2.1 a) (pb := W.2.1 b) hX (by omega) (by omega) (by omega) qa qb ?_
      refine pc_311 hX (ja _ (fun j => decide (sdW W a b j = 1 ∨ sdW W a b j = 2)) _ (amW_3 e) (by rw [e]; decide) (fun y => ?_) (fun j hj => ?_)) ?_
      · rw [decide_eq_true_iff]
        constructor
        · intro z
          exact Or.inl ⟨e, z⟩
        · rintro (⟨_, z⟩ | ⟨z, _⟩)
          · exact z
          · rw [e] at z
            exact absurd z (by decide)
      · rw [Int64.toBitVec_and, BitVec.getLsbD_and, Int64.toBitVec_or, BitVec.getLsbD_or, not_b hj, hA j hj, hB j hj, hC j hj, ← decide_not, ← Bool.decide_or, ← Bool.decide_and, decide_eq_decide]
        omega
      · rintro r N' ⟨k1, k2, k3, k4, k5⟩
        exact ⟨k1, nx N' _ _ (cwK_t hf (cwK_t cwK_gr k2)) k3 k4 k5⟩
end PVE
