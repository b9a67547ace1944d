/-! FORM: the class's gates -/
section FMQ
variable {d : Nat} {M : mm_M}
set_option maxRecDepth 100000 in
theorem tgx_0 {P : am_Q} {X : am_X} {k : Nat × Nat} (hX : am_K (d + 3) false nm_X2_timesGate P X) (h : imS M k) (hP : ∀ N, imF M N → imS N (tgK 0 k) → P (.inl none) N) : X 0 [some (aR 57), some (aI (nI 0)), none] [] M := by
  obtain ⟨h1, h2, h3, h4⟩ := h
  obtain ⟨_, _, a3, _⟩ := ti_b k.1 h3
  obtain ⟨_, _, b3, _⟩ := ti_b k.2 h4
  have l1 := (ti_l k.1 h3).2.2.2
  have l2 := (ti_l k.2 h4).2.2.2
  have ly := yi_l k.1 h3 k.2 h4
  refine am_run hX 5 _ _ _ _ ?_
  conv => whnf
  refine ⟨fun _ => ?_, fun e => absurd (by decide) e⟩
  refine am_run hX 7 _ _ _ _ ?_
  conv => whnf
  rw [h2, b3]
  refine am_run hX 1 _ _ _ _ ?_
  conv => whnf
  refine ⟨trivial, hP _ ⟨fun y hy => mm_ne _ _ _ _ hy, fun y _ b => by rw [mm_i1, up_ne b], rfl⟩ ⟨?_, ?_, h3, l2⟩⟩
  · rw [mm_i1, up_ne (by decide)]
    exact h1
  · rw [mm_i1]
    exact up_at
set_option maxRecDepth 100000 in
theorem tgx_1 {P : am_Q} {X : am_X} {k : Nat × Nat} (hX : am_K (d + 3) false nm_X2_timesGate P X) (h : imS M k) (hP : ∀ N, imF M N → imS N (tgK 1 k) → P (.inl none) N) : X 0 [some (aR 57), some (aI (nI 1)), none] [] M := by
  obtain ⟨h1, h2, h3, h4⟩ := h
  obtain ⟨_, _, a3, _⟩ := ti_b k.1 h3
  obtain ⟨_, _, b3, _⟩ := ti_b k.2 h4
  have l1 := (ti_l k.1 h3).2.2.2
  have l2 := (ti_l k.2 h4).2.2.2
  have ly := yi_l k.1 h3 k.2 h4
  refine am_run hX 5 _ _ _ _ ?_
  conv => whnf
  refine ⟨fun e => absurd e (by decide), fun _ => ?_⟩
  refine ⟨fun _ => ?_, fun e => absurd (by decide) e⟩
  refine am_run hX 6 _ _ _ _ ?_
  conv => whnf
  rw [h1, a3]
  refine am_run hX 7 _ _ _ _ ?_
  conv => whnf
  rw [mm_i1, up_ne (by decide), h2, b3, mm_ii]
  refine am_run hX 1 _ _ _ _ ?_
  conv => whnf
  exact ⟨trivial, hP _ (im2_F M _ _) (im2_S (k := (k.1 ^^^ 4, k.2 ^^^ 4)) l1 l2)⟩
set_option maxRecDepth 100000 in
theorem tgx_2 {P : am_Q} {X : am_X} {k : Nat × Nat} (hX : am_K (d + 3) false nm_X2_timesGate P X) (h : imS M k) (hP : ∀ N, imF M N → imS N (tgK 2 k) → P (.inl none) N) : X 0 [some (aR 57), some (aI (nI 2)), none] [] M := by
  obtain ⟨h1, h2, h3, h4⟩ := h
  obtain ⟨_, _, a3, _⟩ := ti_b k.1 h3
  obtain ⟨_, _, b3, _⟩ := ti_b k.2 h4
  have l1 := (ti_l k.1 h3).2.2.2
  have l2 := (ti_l k.2 h4).2.2.2
  have ly := yi_l k.1 h3 k.2 h4
  refine am_run hX 5 _ _ _ _ ?_
  conv => whnf
  refine ⟨fun e => absurd e (by decide), fun _ => ?_⟩
  refine ⟨fun e => absurd e (by decide), fun _ => ?_⟩
  refine ⟨fun _ => ?_, fun e => absurd (by decide) e⟩
  refine am_run hX 7 _ _ _ _ ?_
  conv => whnf
  rw [h1, a3]
  refine am_run hX 1 _ _ _ _ ?_
  conv => whnf
  refine ⟨trivial, hP _ ⟨fun y hy => mm_ne _ _ _ _ hy, fun y a _ => by rw [mm_i1, up_ne a], rfl⟩ ⟨?_, ?_, l1, h4⟩⟩
  · rw [mm_i1]
    exact up_at
  · rw [mm_i1, up_ne (by decide)]
    exact h2
set_option maxRecDepth 100000 in
theorem tgx_3 {P : am_Q} {X : am_X} {k : Nat × Nat} (hX : am_K (d + 3) false nm_X2_timesGate P X) (h : imS M k) (hP : ∀ N, imF M N → imS N (tgK 3 k) → P (.inl none) N) : X 0 [some (aR 57), some (aI (nI 3)), none] [] M := by
  obtain ⟨h1, h2, h3, h4⟩ := h
  obtain ⟨_, _, a3, _⟩ := ti_b k.1 h3
  obtain ⟨_, _, b3, _⟩ := ti_b k.2 h4
  have l1 := (ti_l k.1 h3).2.2.2
  have l2 := (ti_l k.2 h4).2.2.2
  have ly := yi_l k.1 h3 k.2 h4
  refine am_run hX 5 _ _ _ _ ?_
  conv => whnf
  refine ⟨fun e => absurd e (by decide), fun _ => ?_⟩
  refine ⟨fun e => absurd e (by decide), fun _ => ?_⟩
  refine ⟨fun e => absurd e (by decide), fun _ => ?_⟩
  refine ⟨fun _ => ?_, fun e => absurd (by decide) e⟩
  refine am_run hX 4 _ _ _ _ ?_
  conv => whnf
  rw [h2]
  refine am_run hX 4 _ _ _ _ ?_
  conv => whnf
  rw [mm_i1, mm_ii, h1]
  refine am_run hX 1 _ _ _ _ ?_
  conv => whnf
  exact ⟨trivial, hP _ (im2_F M _ _) (im2_S (k := (k.2, k.1)) h4 h3)⟩
set_option maxRecDepth 100000 in
theorem tgx_4 {P : am_Q} {X : am_X} {k : Nat × Nat} (hX : am_K (d + 3) false nm_X2_timesGate P X) (h : imS M k) (hP : ∀ N, imF M N → imS N (tgK 4 k) → P (.inl none) N) : X 0 [some (aR 57), some (aI (nI 4)), none] [] M := by
  obtain ⟨h1, h2, h3, h4⟩ := h
  obtain ⟨_, _, a3, _⟩ := ti_b k.1 h3
  obtain ⟨_, _, b3, _⟩ := ti_b k.2 h4
  have l1 := (ti_l k.1 h3).2.2.2
  have l2 := (ti_l k.2 h4).2.2.2
  have ly := yi_l k.1 h3 k.2 h4
  refine am_run hX 5 _ _ _ _ ?_
  conv => whnf
  refine ⟨fun e => absurd e (by decide), fun _ => ?_⟩
  refine ⟨fun e => absurd e (by decide), fun _ => ?_⟩
  refine ⟨fun e => absurd e (by decide), fun _ => ?_⟩
  refine ⟨fun e => absurd e (by decide), fun _ => ?_⟩
  refine ⟨fun _ => ?_, fun e => absurd (by decide) e⟩
  refine am_run hX 3 _ _ _ _ ?_
  conv => whnf
  refine am_c1 (ct_imY (d := d) (M := M) ⟨h1, h2, h3, h4⟩) ?_
  refine am_run hX 2 _ _ _ _ ?_
  conv => whnf
  refine am_run hX 1 _ _ _ _ ?_
  conv => whnf
  refine ⟨trivial, hP _ ⟨fun y hy => mm_ne _ _ _ _ hy, fun y a _ => by rw [mm_i1, up_ne a], rfl⟩ ⟨?_, ?_, ly, h4⟩⟩
  · rw [mm_i1]
    exact up_at
  · rw [mm_i1, up_ne (by decide)]
    exact h2
set_option maxRecDepth 100000 in
theorem tgx_6 {P : am_Q} {X : am_X} {k : Nat × Nat} (hX : am_K (d + 3) false nm_X2_timesGate P X) (h : imS M k) (hP : ∀ N, imF M N → imS N (tgK 6 k) → P (.inl none) N) : X 0 [some (aR 57), some (aI (nI 6)), none] [] M := by
  obtain ⟨h1, h2, h3, h4⟩ := h
  obtain ⟨_, _, a3, _⟩ := ti_b k.1 h3
  obtain ⟨_, _, b3, _⟩ := ti_b k.2 h4
  have l1 := (ti_l k.1 h3).2.2.2
  have l2 := (ti_l k.2 h4).2.2.2
  have ly := yi_l k.1 h3 k.2 h4
  refine am_run hX 5 _ _ _ _ ?_
  conv => whnf
  refine ⟨fun e => absurd e (by decide), fun _ => ?_⟩
  refine ⟨fun e => absurd e (by decide), fun _ => ?_⟩
  refine ⟨fun e => absurd e (by decide), fun _ => ?_⟩
  refine ⟨fun e => absurd e (by decide), fun _ => ?_⟩
  refine ⟨fun e => absurd e (by decide), fun _ => ?_⟩
  refine ⟨fun e => absurd e (by decide), fun _ => ?_⟩
  refine ⟨fun _ => ?_, fun e => absurd (by decide) e⟩
  refine am_run hX 3 _ _ _ _ ?_
  conv => whnf
  refine am_c1 (ct_imY (d := d) (M := M) ⟨h1, h2, h3, h4⟩) ?_
  refine am_run hX 4 _ _ _ _ ?_
  conv => whnf
  rw [(ti_b (yI k.1 k.2) ly).2.2.1]
  refine am_run hX 1 _ _ _ _ ?_
  conv => whnf
  refine ⟨trivial, hP _ ⟨fun y hy => mm_ne _ _ _ _ hy, fun y a _ => by rw [mm_i1, up_ne a], rfl⟩ ⟨?_, ?_, (ti_l (yI k.1 k.2) ly).2.2.2, h4⟩⟩
  · rw [mm_i1]
    exact up_at
  · rw [mm_i1, up_ne (by decide)]
    exact h2
set_option maxRecDepth 100000 in
theorem tgx_5 {P : am_Q} {X : am_X} {ss : List Nat} {k : Nat × Nat} (hX : am_K (d + 3) false nm_X2_timesGate P X) (hl : ss.length < 300) (hs3 : ∀ j, j < ss.length → ss.getD j 0 < 3) (h : fcS M (ss, k)) (hP : ∀ N, fcG M N → fcS N (fmT (ss, k)) → P (.inl none) N) : X 0 [some (aR 57), some (aI (nI 5)), none] [] M := by
  refine am_run hX 5 _ _ _ _ ?_
  conv => whnf
  refine ⟨fun e => absurd e (by decide), fun _ => ?_⟩
  refine ⟨fun e => absurd e (by decide), fun _ => ?_⟩
  refine ⟨fun e => absurd e (by decide), fun _ => ?_⟩
  refine ⟨fun e => absurd e (by decide), fun _ => ?_⟩
  refine ⟨fun e => absurd e (by decide), fun _ => ?_⟩
  refine ⟨fun _ => ?_, fun e => absurd (by decide) e⟩
  refine am_run hX 2 _ _ _ _ ?_
  conv => whnf
  refine am_cq (ct_tT (d := d) hl hs3 h) ?_
  rintro r1 N1 ⟨rfl, f1, s1⟩
  refine ⟨none, rfl, ?_⟩
  refine am_run hX 2 _ _ _ _ ?_
  conv => whnf
  exact ⟨trivial, hP N1 f1 s1⟩
set_option maxRecDepth 100000 in
theorem tgx_7 {P : am_Q} {X : am_X} {ss : List Nat} {k : Nat × Nat} (hX : am_K (d + 3) false nm_X2_timesGate P X) (hl : ss.length < 300) (hs3 : ∀ j, j < ss.length → ss.getD j 0 < 3) (h : fcS M (ss, k)) (hP : ∀ N, fcG M N → fcS N ((fmT (ss, k)).1, tgK 6 (fmT (ss, k)).2) → P (.inl none) N) : X 0 [some (aR 57), some (aI (nI 7)), none] [] M := by
  refine am_run hX 5 _ _ _ _ ?_
  conv => whnf
  refine ⟨fun e => absurd e (by decide), fun _ => ?_⟩
  refine ⟨fun e => absurd e (by decide), fun _ => ?_⟩
  refine ⟨fun e => absurd e (by decide), fun _ => ?_⟩
  refine ⟨fun e => absurd e (by decide), fun _ => ?_⟩
  refine ⟨fun e => absurd e (by decide), fun _ => ?_⟩
  refine ⟨fun e => absurd e (by decide), fun _ => ?_⟩
  refine ⟨fun e => absurd e (by decide), fun _ => ?_⟩
  refine ⟨fun _ => ?_, fun e => absurd (by decide) e⟩
  refine am_run hX 2 _ _ _ _ ?_
  conv => whnf
  refine am_cq (ct_tT (d := d) hl hs3 h) ?_
  rintro r1 N1 ⟨rfl, f1, s1⟩
  refine ⟨none, rfl, ?_⟩
  generalize hst : fmT (ss, k) = st at *
  obtain ⟨i1, i2, i3⟩ := s1
  have ly := yi_l st.2.1 i1.2.2.1 st.2.2 i1.2.2.2
  refine am_run hX 3 _ _ _ _ ?_
  conv => whnf
  refine am_c1 (ct_imY (d := d) (M := N1) i1) ?_
  refine am_run hX 4 _ _ _ _ ?_
  conv => whnf
  rw [(ti_b (yI st.2.1 st.2.2) ly).2.2.1]
  refine am_run hX 1 _ _ _ _ ?_
  conv => whnf
  refine ⟨trivial, hP _ (fcG_t f1 ⟨fun y hy _ => mm_ne _ _ _ _ hy, fun y _ a _ => by rw [mm_i1, up_ne a], rfl⟩) ⟨⟨?_, ?_, (ti_l (yI st.2.1 st.2.2) ly).2.2.2, i1.2.2.2⟩, ?_, fun j hj => ?_⟩⟩
  · rw [mm_i1]
    exact up_at
  · rw [mm_i1, up_ne (by decide)]
    exact i1.2.1
  · rw [mm_i1, up_ne (by decide)]
    exact i2
  · rw [mm_ne _ _ _ _ (by decide)]
    exact i3 j hj
theorem ct_tG {st : List Nat × (Nat × Nat)} {g : Nat} (hg : g < 8) (hl : st.1.length < 300) (hs3 : ∀ j, j < st.1.length → st.1.getD j 0 < 3) (h : fcS M st) : am_M (d + 4) false nm_X2_timesGate [aR 57, aI (nI g)] M (fun r N => r = .inl none ∧ fcG M N ∧ fcS N (fmG st g)) := by
  obtain ⟨ss, k⟩ := st
  have ex : ∀ g, g ≠ 5 → g ≠ 7 → ∀ N, imF M N → imS N (tgK g k) → fcG M N ∧ fcS N (fmG (ss, k) g) := fun g h5 h7 N f i => ⟨fcG_i f, by
    have e : fmG (ss, k) g = (ss, tgK g k) := by
      unfold fmG
      rw [if_neg h5, if_neg h7]
    rw [e]
    exact fcS_i f i h⟩
  refine ⟨rfl, rfl, rfl, fun X hX => ?_⟩
  have : g = 0 ∨ g = 1 ∨ g = 2 ∨ g = 3 ∨ g = 4 ∨ g = 5 ∨ g = 6 ∨ g = 7 := by omega
  rcases this with rfl | rfl | rfl | rfl | rfl | rfl | rfl | rfl
  · exact tgx_0 (d := d) (k := k) hX h.1 (fun N a b => ⟨rfl, ex 0 (by decide) (by decide) N a b⟩)
  · exact tgx_1 (d := d) (k := k) hX h.1 (fun N a b => ⟨rfl, ex 1 (by decide) (by decide) N a b⟩)
  · exact tgx_2 (d := d) (k := k) hX h.1 (fun N a b => ⟨rfl, ex 2 (by decide) (by decide) N a b⟩)
  · exact tgx_3 (d := d) (k := k) hX h.1 (fun N a b => ⟨rfl, ex 3 (by decide) (by decide) N a b⟩)
  · exact tgx_4 (d := d) (k := k) hX h.1 (fun N a b => ⟨rfl, ex 4 (by decide) (by decide) N a b⟩)
  · exact tgx_5 (d := d) hX hl hs3 h (fun N a b => ⟨rfl, a, b⟩)
  · exact tgx_6 (d := d) (k := k) hX h.1 (fun N a b => ⟨rfl, ex 6 (by decide) (by decide) N a b⟩)
  · exact tgx_7 (d := d) hX hl hs3 h (fun N a b => ⟨rfl, a, b⟩)
/-- h and s alone -/
theorem ct_tGi {k : Nat × Nat} {g : Nat} (hg : g = 3 ∨ g = 4) (h : imS M k) : am_M (d + 4) false nm_X2_timesGate [aR 57, aI (nI g)] M (fun r N => r = .inl none ∧ imF M N ∧ imS N (tgK g k)) := by
  refine ⟨rfl, rfl, rfl, fun X hX => ?_⟩
  rcases hg with rfl | rfl
  · exact tgx_3 (d := d) (k := k) hX h (fun N a b => ⟨rfl, a, b⟩)
  · exact tgx_4 (d := d) (k := k) hX h (fun N a b => ⟨rfl, a, b⟩)
end FMQ
