/-! DIAGRAMS: pivot at the class, its loop -/
section PVD
variable {d m inp a b i : Nat} {N : mm_M} {W : WB} {vA vB vC : Int64} {f : Int32}
set_option maxRecDepth 100000 in
theorem pc_30 {u w : Int32} {Pp : am_Q} {X : am_X} (hX : am_K d false nm_X10_pivot Pp X) (hu : u = 0) (hK : X 293 [some (aR 39), some (aI (nI a)), some (aI (nI b)), some (aJ vA), none, some (aJ vB), none, some (aI f), some (aJ vC), none, some (aI (nI i)), some (aI u), some (aI w)] [] N) : X 243 [some (aR 39), some (aI (nI a)), some (aI (nI b)), some (aJ vA), none, some (aJ vB), none, some (aI f), some (aJ vC), none, some (aI (nI i)), some (aI u), some (aI w)] [] N := by
  refine am_run hX 2 _ _ _ _ ?_
  conv => whnf
  refine ⟨fun _ => ?_, fun c => absurd hu c⟩
  refine am_run hX 2 _ _ _ _ ?_
  conv => whnf
  exact ⟨fun _ => hK, fun c => absurd hu c⟩
set_option maxRecDepth 100000 in
theorem pc_310 {q : am_Q} {Pp : am_Q} {X : am_X} (hX : am_K d false nm_X10_pivot Pp X) (km : am_M d false nm_X10_joinAll [aR 39, aI (nI i), aJ (vB &&& (vC ^^^ -1))] N q) (hq : ∀ r N', q r N' → r = .inl none ∧ X 293 [some (aR 39), some (aI (nI a)), some (aI (nI b)), some (aJ vA), none, some (aJ vB), none, some (aI f), some (aJ vC), none, some (aI (nI i)), some (aI (nI 1)), some (aI (nI 0))] [] N') : X 243 [some (aR 39), some (aI (nI a)), some (aI (nI b)), some (aJ vA), none, some (aJ vB), none, some (aI f), some (aJ vC), none, some (aI (nI i)), some (aI (nI 1)), some (aI (nI 0))] [] N := by
  refine am_run hX 2 _ _ _ _ ?_
  conv => whnf
  refine ⟨fun c => absurd c (by decide), fun _ => ?_⟩
  refine am_run hX 2 _ _ _ _ ?_
  conv => whnf
  refine ⟨fun _ => ?_, fun c => absurd rfl c⟩
  refine am_run hX 2 _ _ _ _ ?_
  conv => whnf
  refine ⟨fun c => absurd c (by decide), fun _ => ?_⟩
  refine am_run hX 8 _ _ _ _ ?_
  conv => whnf
  refine am_cq km ?_
  intro r N' h
  obtain ⟨rfl, hK⟩ := hq r N' h
  refine ⟨none, rfl, ?_⟩
  conv => whnf
  exact hK
set_option maxRecDepth 100000 in
theorem pc_311 {q : am_Q} {Pp : am_Q} {X : am_X} (hX : am_K d false nm_X10_pivot Pp X) (km : am_M d false nm_X10_joinAll [aR 39, aI (nI i), aJ ((vA ||| vB) &&& (vC ^^^ -1))] N q) (hq : ∀ r N', q r N' → r = .inl none ∧ X 293 [some (aR 39), some (aI (nI a)), some (aI (nI b)), some (aJ vA), none, some (aJ vB), none, some (aI f), some (aJ vC), none, some (aI (nI i)), some (aI (nI 1)), some (aI (nI 1))] [] N') : X 243 [some (aR 39), some (aI (nI a)), some (aI (nI b)), some (aJ vA), none, some (aJ vB), none, some (aI f), some (aJ vC), none, some (aI (nI i)), some (aI (nI 1)), some (aI (nI 1))] [] N := by
  refine am_run hX 2 _ _ _ _ ?_
  conv => whnf
  refine ⟨fun c => absurd c (by decide), fun _ => ?_⟩
  refine am_run hX 2 _ _ _ _ ?_
  conv => whnf
  refine ⟨fun c => absurd c (by decide), fun _ => ?_⟩
  refine am_run hX 11 _ _ _ _ ?_
  conv => whnf
  refine am_cq km ?_
  intro r N' h
  obtain ⟨rfl, hK⟩ := hq r N' h
  refine ⟨none, rfl, ?_⟩
  conv => whnf
  exact hK
theorem pr_y {s : Nat → Nat} {x y : Nat} (h : prS s x y) : s y ≠ 0 ∧ s x ≠ 0 ∧ s x ≠ s y ∧ ¬ prS s y x := by
  rcases h with ⟨h1, h2 | h2⟩ | ⟨h1, h2⟩
  · rw [h1, h2]
    refine ⟨by decide, by decide, by decide, fun z => ?_⟩
    rcases z with ⟨z, _⟩ | ⟨_, z⟩
    · rw [h2] at z; exact absurd z (by decide)
    · rw [h1] at z; exact absurd z (by decide)
  · rw [h1, h2]
    refine ⟨by decide, by decide, by decide, fun z => ?_⟩
    rcases z with ⟨z, _⟩ | ⟨z, _⟩
    · rw [h2] at z; exact absurd z (by decide)
    · rw [h2] at z; exact absurd z (by decide)
  · rw [h1, h2]
    refine ⟨by decide, by decide, by decide, fun z => ?_⟩
    rcases z with ⟨z, _⟩ | ⟨z, _⟩
    · rw [h2] at z; exact absurd z (by decide)
    · rw [h2] at z; exact absurd z (by decide)
theorem Dc_s {s : Nat → Nat} {S : Nat → Bool} (hm : ∀ y, s y ≠ 0 → y < m) (hQ : ∀ y, (S y = true ↔ prS s i y)) : ∀ x y, Dc s (i + 1) 0 x y = (Dc s i 0 x y || decide ((x = i ∧ y < m ∧ S y = true) ∨ (y = i ∧ x < m ∧ S x = true))) := fun x y => by
  unfold Dc
  rw [← Bool.decide_or, decide_eq_decide]
  constructor
  · rintro (⟨h1, h2⟩ | ⟨h1, h2⟩ | ⟨_, h, _⟩ | ⟨_, h, _⟩)
    · by_cases e : x = i
      · rw [e] at h2
        exact Or.inr (Or.inl ⟨e, hm y (pr_y h2).1, (hQ y).mpr h2⟩)
      · exact Or.inl (Or.inl ⟨Nat.lt_of_le_of_ne (Nat.le_of_lt_succ h1) e, h2⟩)
    · by_cases e : y = i
      · rw [e] at h2
        exact Or.inr (Or.inr ⟨e, hm x (pr_y h2).1, (hQ x).mpr h2⟩)
      · exact Or.inl (Or.inr (Or.inl ⟨Nat.lt_of_le_of_ne (Nat.le_of_lt_succ h1) e, h2⟩))
    · exact absurd h (Nat.not_lt_zero _)
    · exact absurd h (Nat.not_lt_zero _)
  · rintro ((⟨h1, h2⟩ | ⟨h1, h2⟩ | ⟨_, h, _⟩ | ⟨_, h, _⟩) | (⟨e, _, h⟩ | ⟨e, _, h⟩))
    · exact Or.inl ⟨Nat.lt_succ_of_lt h1, h2⟩
    · exact Or.inr (Or.inl ⟨Nat.lt_succ_of_lt h1, h2⟩)
    · exact absurd h (Nat.not_lt_zero _)
    · exact absurd h (Nat.not_lt_zero _)
    · have h := (hQ y).mp h
      rw [← e] at h
      exact Or.inl ⟨by rw [e]; exact Nat.lt_succ_self _, h⟩
    · have h := (hQ x).mp h
      rw [← e] at h
      exact Or.inr (Or.inl ⟨by rw [e]; exact Nat.lt_succ_self _, h⟩)
theorem Dc_n {s : Nat → Nat} (hQ : ∀ y, ¬ prS s i y) : ∀ x y, Dc s (i + 1) 0 x y = Dc s i 0 x y := fun x y => by
  unfold Dc
  rw [decide_eq_decide]
  constructor
  · rintro (⟨h1, h2⟩ | ⟨h1, h2⟩ | ⟨_, h, _⟩ | ⟨_, h, _⟩)
    · refine Or.inl ⟨Nat.lt_of_le_of_ne (Nat.le_of_lt_succ h1) fun e => ?_, h2⟩
      rw [e] at h2
      exact hQ y h2
    · refine Or.inr (Or.inl ⟨Nat.lt_of_le_of_ne (Nat.le_of_lt_succ h1) fun e => ?_, h2⟩)
      rw [e] at h2
      exact hQ x h2
    · exact absurd h (Nat.not_lt_zero _)
    · exact absurd h (Nat.not_lt_zero _)
  · rintro (⟨h1, h2⟩ | ⟨h1, h2⟩ | ⟨_, h, _⟩ | ⟨_, h, _⟩)
    · exact Or.inl ⟨Nat.lt_succ_of_lt h1, h2⟩
    · exact Or.inr (Or.inl ⟨Nat.lt_succ_of_lt h1, h2⟩)
    · exact absurd h (Nat.not_lt_zero _)
    · exact absurd h (Nat.not_lt_zero _)
theorem Dc_sy {s : Nat → Nat} {j : Nat} : ∀ x y, Dc s i j x y = Dc s i j y x := fun x y => by
  unfold Dc
  rw [decide_eq_decide]
  constructor
  · rintro (h | h | h | h)
    · exact Or.inr (Or.inl h)
    · exact Or.inl h
    · exact Or.inr (Or.inr (Or.inr h))
    · exact Or.inr (Or.inr (Or.inl h))
  · rintro (h | h | h | h)
    · exact Or.inr (Or.inl h)
    · exact Or.inl h
    · exact Or.inr (Or.inr (Or.inr h))
    · exact Or.inr (Or.inr (Or.inl h))
theorem Dc_df {s : Nat → Nat} {j x y : Nat} (h : Dc s i j x y = true) : dfS s x y := by
  have h := of_decide_eq_true h
  rcases h with ⟨_, h⟩ | ⟨_, h⟩ | ⟨_, _, h⟩ | ⟨_, _, h⟩
  · exact ⟨(pr_y h).2.1, (pr_y h).1, (pr_y h).2.2.1⟩
  · exact ⟨(pr_y h).1, (pr_y h).2.1, fun z => (pr_y h).2.2.1 z.symm⟩
  · exact ⟨(pr_y h).2.1, (pr_y h).1, (pr_y h).2.2.1⟩
  · exact ⟨(pr_y h).1, (pr_y h).2.1, fun z => (pr_y h).2.2.1 z.symm⟩
theorem Dc_new {s : Nat → Nat} {j : Nat} (h : prS s i j) : Dc s i 0 i j = false ∧ Dc s i 0 j i = false := by
  have k : ¬ ((i < i ∧ prS s i j) ∨ (j < i ∧ prS s j i) ∨ (i = i ∧ j < 0 ∧ prS s i j) ∨ (j = i ∧ i < 0 ∧ prS s j i)) := by
    rintro (⟨h1, _⟩ | ⟨_, h1⟩ | ⟨_, h1, _⟩ | ⟨_, h1, _⟩)
    · exact Nat.lt_irrefl _ h1
    · exact (pr_y h).2.2.2 h1
    · exact Nat.not_lt_zero _ h1
    · exact Nat.not_lt_zero _ h1
  have e : Dc s i 0 i j = false := decide_eq_false k
  exact ⟨e, by rw [Dc_sy]; exact e⟩
/-- the DIAGRAM within the loop -/
def pvS (W : WB) (a b : Nat) (D : Nat → Nat → Bool) (i : Nat) : WB := ((rm2 W a b).1, pvP W.2.1 (amW W a b) i, tgE (rm2 W a b).2.2 D)
theorem pvS_gd {D : Nat → Nat → Bool} {n : Nat} (g : gdW m inp W) (ha : 2 * inp ≤ a) (hb : 2 * inp ≤ b) (hs : ∀ x y, D x y = D y x) (hd : ∀ x y, D x y = true → dfS (sdW W a b) x y) : gdW m inp (pvS W a b D n) := by
  have g2 := gd_2 (a := a) (b := b) g ha hb
  refine gd_tg ?_ hs fun x y h => ?_
  · obtain ⟨h1, h2, h3, h4, h5, h6, h7, h8, h9, h10, h11⟩ := g2
    refine ⟨h1, h2, h3, h4, h5, h6, h7, h8, h9, h10, fun x hx => ?_⟩
    show pvP W.2.1 (amW W a b) n x < 8
    unfold pvP
    by_cases e : x < n
    · rw [if_pos e]
      exact Nat.mod_lt _ (by decide)
    · rw [if_neg e]
      exact h11 x hx
  · have := hd x y h
    have n1 := sd_nx.mp this.1
    have n2 := sd_nx.mp this.2.1
    refine ⟨?_, ?_, fun z => this.2.2 (by rw [z])⟩
    · rw [rm2_T n1.1 n1.2.1]
      exact nx_T g n1
    · rw [rm2_T n2.1 n2.2.1]
      exact nx_T g n2
theorem pvS_ja {S : Nat → Bool} {n : Nat} (g : gdW m inp W) (hn : npP W a b) (hS : ∀ y, S y = true ↔ prS (sdW W a b) i y) : jaW (pvS W a b (Dc (sdW W a b) i 0) n) i S m = pvS W a b (Dc (sdW W a b) (i + 1) 0) n := by
  have hm : ∀ y, sdW W a b y ≠ 0 → y < m := fun y hy => g.2.2.2.2.1 y (nx_T g (sd_nx.mp hy))
  have key := ja_tg (T := (rm2 W a b).1) (ph := pvP W.2.1 (amW W a b) n) (E := (rm2 W a b).2.2) (D := Dc (sdW W a b) i 0) (S := S) (i := i) (fun j hj => by
    have hp := (hS j).mp hj
    have n1 : nxP W i a b := sd_nx.mp (pr_y hp).2.1
    have n2 : nxP W j a b := sd_nx.mp (pr_y hp).1
    refine ⟨fun z => ?_, (Dc_new hp).1, (Dc_new hp).2, nx_E g hn n1 n2, ?_⟩
    · rw [z] at hp
      exact (pr_y hp).2.2.1 rfl
    · rw [rm2_E n2.1 n2.2.1 n1.1 n1.2.1, rm2_E n1.1 n1.2.1 n2.1 n2.2.1]
      exact g.2.2.2.2.2.2.1 j i) m
  show jaW ((rm2 W a b).1, pvP W.2.1 (amW W a b) n, tgE (rm2 W a b).2.2 (Dc (sdW W a b) i 0)) i S m = _
  rw [key]
  show _ = ((rm2 W a b).1, pvP W.2.1 (amW W a b) n, tgE (rm2 W a b).2.2 (Dc (sdW W a b) (i + 1) 0))
  rw [tg_c (Dc_s (m := m) (S := S) hm hS)]
end PVD
