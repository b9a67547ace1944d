/-! DIAGRAMS: the four RULES; the pair rewrite -/
def rlOK (inp : Nat) (W : WB) (k p q : Int32) : Prop := (k = 1 ∧ ∃ a b, p = nI a ∧ q = nI b ∧ edW inp W 1 a b) ∨ (k = 2 ∧ ∃ a, p = nI a ∧ skOK inp W a) ∨ (k = 3 ∧ ∃ a, p = nI a ∧ cpOK inp W a) ∨ (k = 4 ∧ ∃ a b, p = nI a ∧ q = nI b ∧ pvOK inp W a b)
def rlV (inp m : Nat) (W : WB) (k p q : Int32) (V : WB) : Prop := (k = 1 ∧ ∃ a b, p = nI a ∧ q = nI b ∧ edW inp W 1 a b ∧ V = fuW W a b m) ∨ (k = 2 ∧ skV inp W p V) ∨ (k = 3 ∧ cpV inp m W p V) ∨ (k = 4 ∧ pvV inp m W p q V)
section RUL
variable {d m inp : Nat} {N : mm_M} {W : WB} {k p q : Int32}
theorem ruC_wk {ok ok' : Prop} {P P' : WB → Prop} (h1 : ok ↔ ok') (h2 : ∀ V, P V → P' V) (r : _) (N' : mm_M) (h : ruC N m inp ok P r N') : ruC N m inp ok' P' r N' := by
  rcases h with ⟨a, b, c⟩ | ⟨a, b, c, e, V, f, g⟩
  · exact Or.inl ⟨fun z => a (h1.mpr z), b, c⟩
  · exact Or.inr ⟨h1.mp a, b, c, e, V, h2 V f, g⟩
theorem ruR_wk {ok ok' : Prop} {P P' : WB → Prop} (h1 : ok ↔ ok') (h2 : ∀ V, P V → P' V) (r : _) (N' : mm_M) (h : ruR N inp ok P r N') : ruR N inp ok' P' r N' := by
  rcases h with ⟨a, b, c⟩ | ⟨a, b, c, V, f, g⟩
  · exact Or.inl ⟨fun z => a (h1.mpr z), b, c⟩
  · exact Or.inr ⟨h1.mp a, b, c, V, h2 V f, g⟩
theorem rl_1 : (∃ a b, p = nI a ∧ q = nI b ∧ edW inp W 1 a b) ↔ rlOK inp W 1 p q := ⟨fun h => Or.inl ⟨rfl, h⟩, fun h => by
  rcases h with h | h | h | h
  · exact h.2
  · exact absurd h.1 (by decide)
  · exact absurd h.1 (by decide)
  · exact absurd h.1 (by decide)⟩
theorem rl_2 : (∃ a, p = nI a ∧ skOK inp W a) ↔ rlOK inp W 2 p q := ⟨fun h => Or.inr (Or.inl ⟨rfl, h⟩), fun h => by
  rcases h with h | h | h | h
  · exact absurd h.1 (by decide)
  · exact h.2
  · exact absurd h.1 (by decide)
  · exact absurd h.1 (by decide)⟩
theorem rl_3 : (∃ a, p = nI a ∧ cpOK inp W a) ↔ rlOK inp W 3 p q := ⟨fun h => Or.inr (Or.inr (Or.inl ⟨rfl, h⟩)), fun h => by
  rcases h with h | h | h | h
  · exact absurd h.1 (by decide)
  · exact absurd h.1 (by decide)
  · exact h.2
  · exact absurd h.1 (by decide)⟩
theorem rl_4 : (∃ a b, p = nI a ∧ q = nI b ∧ pvOK inp W a b) ↔ rlOK inp W 4 p q := ⟨fun h => Or.inr (Or.inr (Or.inr ⟨rfl, h⟩)), fun h => by
  rcases h with h | h | h | h
  · exact absurd h.1 (by decide)
  · exact absurd h.1 (by decide)
  · exact absurd h.1 (by decide)
  · exact h.2⟩
set_option maxRecDepth 100000 in
theorem ct_rlC (h : cwR N m inp W) (g : gdW m inp W) : am_M (d + 5) false nm_X10_doRule [aR 39, aI k, aI p, aI q] N (ruC N m inp (rlOK inp W k p q) (rlV inp m W k p q)) := by
  refine ⟨rfl, rfl, rfl, fun X hX => ?_⟩
  have fin : ∀ {r : _} {N' : mm_M}, ruC N m inp (rlOK inp W k p q) (rlV inp m W k p q) r N' → ∃ v, (v = 0 ∨ v = 1) ∧ r = .inl (some (aI v)) := fun {r N'} hE => by
    rcases hE with ⟨_, b, _⟩ | ⟨_, b, _⟩
    · exact ⟨0, Or.inl rfl, b⟩
    · exact ⟨1, Or.inr rfl, b⟩
  refine am_run hX 8 _ _ _ _ ?_
  conv => whnf
  refine ⟨fun c => ?_, fun c1 => ?_⟩
  · have c : k = 1 := c
    conv => whnf
    refine am_cq (am_wk (ct_fuC (d := d + 1) h g) (ruC_wk (ok' := rlOK inp W k p q) (P' := rlV inp m W k p q) (by rw [c]; exact rl_1) fun V hV => Or.inl ⟨c, hV⟩)) ?_
    intro r N' hE
    obtain ⟨v, hv, rfl⟩ := fin hE
    refine ⟨_, rfl, ?_⟩
    rcases hv with rfl | rfl
    · conv => whnf
      exact ⟨rfl, hE⟩
    · conv => whnf
      exact ⟨rfl, hE⟩
  conv => whnf
  refine ⟨fun c => ?_, fun c2 => ?_⟩
  · have c : k = 2 := c
    conv => whnf
    refine am_cq (am_wk (ct_skC (d := d + 1) h g) (ruC_wk (ok' := rlOK inp W k p q) (P' := rlV inp m W k p q) (by rw [c]; exact rl_2) fun V hV => Or.inr (Or.inl ⟨c, hV⟩))) ?_
    intro r N' hE
    obtain ⟨v, hv, rfl⟩ := fin hE
    refine ⟨_, rfl, ?_⟩
    rcases hv with rfl | rfl
    · conv => whnf
      exact ⟨rfl, hE⟩
    · conv => whnf
      exact ⟨rfl, hE⟩
  conv => whnf
  refine ⟨fun c => ?_, fun c3 => ?_⟩
  · have c : k = 3 := c
    conv => whnf
    refine am_cq (am_wk (ct_cpC (d := d) h g) (ruC_wk (ok' := rlOK inp W k p q) (P' := rlV inp m W k p q) (by rw [c]; exact rl_3) fun V hV => Or.inr (Or.inr (Or.inl ⟨c, hV⟩)))) ?_
    intro r N' hE
    obtain ⟨v, hv, rfl⟩ := fin hE
    refine ⟨_, rfl, ?_⟩
    rcases hv with rfl | rfl
    · conv => whnf
      exact ⟨rfl, hE⟩
    · conv => whnf
      exact ⟨rfl, hE⟩
  conv => whnf
  refine ⟨fun c => ?_, fun c4 => ?_⟩
  · have c : k = 4 := c
    conv => whnf
    refine am_cq (am_wk (ct_pvC (d := d) h g) (ruC_wk (ok' := rlOK inp W k p q) (P' := rlV inp m W k p q) (by rw [c]; exact rl_4) fun V hV => Or.inr (Or.inr (Or.inr ⟨c, hV⟩)))) ?_
    intro r N' hE
    obtain ⟨v, hv, rfl⟩ := fin hE
    refine ⟨_, rfl, ?_⟩
    rcases hv with rfl | rfl
    · conv => whnf
      exact ⟨rfl, hE⟩
    · conv => whnf
      exact ⟨rfl, hE⟩
  conv => whnf
  refine ⟨rfl, Or.inl ⟨fun z => ?_, rfl, rfl⟩⟩
  rcases z with z | z | z | z
  · exact c1 z.1
  · exact c2 z.1
  · exact c3 z.1
  · exact c4 z.1
set_option maxRecDepth 100000 in
theorem ct_rlR (h : rwR N inp W) (g : gdW m inp W) : am_M (d + 5) false nm_X12_rule [aR 108, aI k, aI p, aI q] N (ruR N inp (rlOK inp W k p q) (rlV inp m W k p q)) := by
  refine ⟨rfl, rfl, rfl, fun X hX => ?_⟩
  have fin : ∀ {r : _} {N' : mm_M}, ruR N inp (rlOK inp W k p q) (rlV inp m W k p q) r N' → ∃ v, (v = 0 ∨ v = 1) ∧ r = .inl (some (aI v)) := fun {r N'} hE => by
    rcases hE with ⟨_, b, _⟩ | ⟨_, b, _⟩
    · exact ⟨0, Or.inl rfl, b⟩
    · exact ⟨1, Or.inr rfl, b⟩
  refine am_run hX 8 _ _ _ _ ?_
  conv => whnf
  refine ⟨fun c => ?_, fun c1 => ?_⟩
  · have c : k = 1 := c
    conv => whnf
    refine am_cq (am_wk (ct_fuR (d := d + 1) h g) (ruR_wk (ok' := rlOK inp W k p q) (P' := rlV inp m W k p q) (by rw [c]; exact rl_1) fun V hV => Or.inl ⟨c, hV⟩)) ?_
    intro r N' hE
    obtain ⟨v, hv, rfl⟩ := fin hE
    refine ⟨_, rfl, ?_⟩
    rcases hv with rfl | rfl
    · conv => whnf
      exact ⟨rfl, hE⟩
    · conv => whnf
      exact ⟨rfl, hE⟩
  conv => whnf
  refine ⟨fun c => ?_, fun c2 => ?_⟩
  · have c : k = 2 := c
    conv => whnf
    refine am_cq (am_wk (ct_skR (d := d + 1) h g) (ruR_wk (ok' := rlOK inp W k p q) (P' := rlV inp m W k p q) (by rw [c]; exact rl_2) fun V hV => Or.inr (Or.inl ⟨c, hV⟩))) ?_
    intro r N' hE
    obtain ⟨v, hv, rfl⟩ := fin hE
    refine ⟨_, rfl, ?_⟩
    rcases hv with rfl | rfl
    · conv => whnf
      exact ⟨rfl, hE⟩
    · conv => whnf
      exact ⟨rfl, hE⟩
  conv => whnf
  refine ⟨fun c => ?_, fun c3 => ?_⟩
  · have c : k = 3 := c
    conv => whnf
    refine am_cq (am_wk (ct_cpR (d := d) h g) (ruR_wk (ok' := rlOK inp W k p q) (P' := rlV inp m W k p q) (by rw [c]; exact rl_3) fun V hV => Or.inr (Or.inr (Or.inl ⟨c, hV⟩)))) ?_
    intro r N' hE
    obtain ⟨v, hv, rfl⟩ := fin hE
    refine ⟨_, rfl, ?_⟩
    rcases hv with rfl | rfl
    · conv => whnf
      exact ⟨rfl, hE⟩
    · conv => whnf
      exact ⟨rfl, hE⟩
  conv => whnf
  refine ⟨fun c => ?_, fun c4 => ?_⟩
  · have c : k = 4 := c
    conv => whnf
    refine am_cq (am_wk (ct_pvR (d := d) h g) (ruR_wk (ok' := rlOK inp W k p q) (P' := rlV inp m W k p q) (by rw [c]; exact rl_4) fun V hV => Or.inr (Or.inr (Or.inr ⟨c, hV⟩)))) ?_
    intro r N' hE
    obtain ⟨v, hv, rfl⟩ := fin hE
    refine ⟨_, rfl, ?_⟩
    rcases hv with rfl | rfl
    · conv => whnf
      exact ⟨rfl, hE⟩
    · conv => whnf
      exact ⟨rfl, hE⟩
  conv => whnf
  refine ⟨rfl, Or.inl ⟨fun z => ?_, rfl, rfl⟩⟩
  rcases z with z | z | z | z
  · exact c1 z.1
  · exact c2 z.1
  · exact c3 z.1
  · exact c4 z.1
theorem nI_inw (g : gdW m inp W) {a a' : Nat} (ta : W.1 a = true) (ta' : W.1 a' = true) (e : p = nI a) (e' : p = nI a') : a = a' := by
  have := g.1
  have := g.2.2.2.2.1 a ta
  have := g.2.2.2.2.1 a' ta'
  exact (nI_eq (by omega) (by omega)).mp (e.symm.trans e')
theorem rlV_u {V V' : WB} (g : gdW m inp W) (h : rlV inp m W k p q V) (h' : rlV inp m W k p q V') : V = V' := by
  rcases h with ⟨e, a, b, e1, e2, y, rfl⟩ | ⟨e, a, c, x, e1, y, hn, rfl⟩ | ⟨e, a, e1, y, rfl⟩ | ⟨e, a, b, e1, e2, y, rfl⟩
  · rcases h' with ⟨_, a', b', f1, f2, z, rfl⟩ | ⟨f, _⟩ | ⟨f, _⟩ | ⟨f, _⟩
    · rw [nI_inw g y.1.1 z.1.1 e1 f1, nI_inw g y.2.1.1 z.2.1.1 e2 f2]
    · rw [e] at f; exact absurd f (by decide)
    · rw [e] at f; exact absurd f (by decide)
    · rw [e] at f; exact absurd f (by decide)
  · rcases h' with ⟨f, _⟩ | ⟨_, a', c', x', f1, z, hn', rfl⟩ | ⟨f, _⟩ | ⟨f, _⟩
    · rw [e] at f; exact absurd f (by decide)
    · have ea := nI_inw g y.1.1 z.1.1 e1 f1
      subst ea
      obtain ⟨u1, u2⟩ := nb_u hn hn'
      rw [u1, u2]
    · rw [e] at f; exact absurd f (by decide)
    · rw [e] at f; exact absurd f (by decide)
  · rcases h' with ⟨f, _⟩ | ⟨f, _⟩ | ⟨_, a', f1, z, rfl⟩ | ⟨f, _⟩
    · rw [e] at f; exact absurd f (by decide)
    · rw [e] at f; exact absurd f (by decide)
    · rw [nI_inw g y.1.1 z.1.1 e1 f1]
    · rw [e] at f; exact absurd f (by decide)
  · rcases h' with ⟨f, _⟩ | ⟨f, _⟩ | ⟨f, _⟩ | ⟨_, a', b', f1, f2, z, rfl⟩
    · rw [e] at f; exact absurd f (by decide)
    · rw [e] at f; exact absurd f (by decide)
    · rw [e] at f; exact absurd f (by decide)
    · rw [nI_inw g y.1.1.1 z.1.1.1 e1 f1, nI_inw g y.1.2.1.1 z.1.2.1.1 e2 f2]
theorem rlV_gd {V : WB} (g : gdW m inp W) (h : rlV inp m W k p q V) : gdW m inp V := by
  rcases h with ⟨e, a, b, e1, e2, ⟨ia, ib, hab, he⟩, rfl⟩ | ⟨e, a, c, x, e1, y, hn, rfl⟩ | ⟨e, a, e1, y, rfl⟩ | ⟨e, a, b, e1, e2, y, rfl⟩
  · refine fu_gd (gd_gr (gd_rm g ib.2)) ?_ (fun i hi hz => ?_) (fun i => g.2.2.2.2.2.2.2.2.1 b i) m
    · show (if a = b then false else W.1 a) = true
      rw [if_neg (by omega)]
      exact ia.1
    · have t := (g.2.2.2.2.2.2.2.2.2.1 b i hz).2
      show (if i = b then false else W.1 i) = true
      rw [if_neg]
      · exact t
      · intro z
        rw [z, g.2.2.2.2.2.2.2.1] at hz
        exact hz rfl
  · have ec := (hn.2 c).mpr (Or.inl rfl)
    have ex := (hn.2 x).mpr (Or.inr rfl)
    have nc : c ≠ a := fun z => by
      rw [z, g.2.2.2.2.2.2.2.1] at ec
      exact ec rfl
    have nx : x ≠ a := fun z => by
      rw [z, g.2.2.2.2.2.2.2.1] at ex
      exact ex rfl
    refine gd_jn (gd_rm g y.1.2) ?_ ?_ (Nat.ne_of_lt hn.1) ?_
    · show (if c = a then false else W.1 c) = true
      rw [if_neg nc]
      exact (g.2.2.2.2.2.2.2.2.2.1 a c ec).2
    · show (if x = a then false else W.1 x) = true
      rw [if_neg nx]
      exact (g.2.2.2.2.2.2.2.2.2.1 a x ex).2
    · by_cases z : W.2.2 a c = W.2.2 a x
      · rw [if_pos z]; exact Or.inl rfl
      · rw [if_neg z]; exact Or.inr rfl
  · refine cp_gd (gd_rm g y.1.2) (fun j hj => ?_) m
    have hj := of_decide_eq_true hj
    show (if j = a then false else W.1 j) = true
    rw [if_neg]
    · exact (g.2.2.2.2.2.2.2.2.2.1 a j (by omega)).2
    · intro z
      rw [z, g.2.2.2.2.2.2.2.1] at hj
      exact absurd hj (by decide)
  · exact pvS_gd (n := m) g y.1.1.2 y.1.2.1.2 (fun x z => by
      rw [decide_eq_decide]
      exact ⟨fun ⟨h1, h2, h3⟩ => ⟨h2, h1, fun w => h3 w.symm⟩, fun ⟨h1, h2, h3⟩ => ⟨h2, h1, fun w => h3 w.symm⟩⟩) (fun x z h => of_decide_eq_true h)
/-- DIAGRAMS from call to call -/
def wvI (M : mm_M) : Prop := (M.1 39 6 = 0 ∧ M.1 108 98 = 0) ∨ ∃ m inp W, 1 ≤ m ∧ cwR M m inp W ∧ rwR M inp W ∧ gdW m inp W
theorem cwR_rw {N' : mm_M} (hf : rwF N N') (h : cwR N m inp W) : cwR N' m inp W := by
  unfold cwR at *
  rw [hf.1 39 (by decide) (by decide) (by decide), hf.1 42 (by decide) (by decide) (by decide), hf.2]
  exact h
theorem rwR_cw {N' : mm_M} (hf : cwF N N') (h : rwR N inp W) : rwR N' inp W := by
  unfold rwR at *
  rw [hf.1 108 (by decide) (by decide), hf.1 169 (by decide) (by decide), hf.1 170 (by decide) (by decide), hf.1 171 (by decide) (by decide)]
  exact h
end RUL
