/-! circuit: the class's top, the reference's top -/
section CSM1
variable {T : Nat → Nat} {t W : Nat}
theorem PS_d {p p' : Nat} : ∀ (m n : Nat) {a b b' : CX}, PSn T t W m a b → tkE T t W b = .inl p → PSn T t W n a b' → tkE T t W b' = .inl p' → b = b'
  | 0, 0, a, b, b', h, _, h', _ => by
    have h : a = b := h
    have h' : a = b' := h'
    rw [← h, ← h']
  | 0, n + 1, a, b, b', h, g, h', _ => by
    have h : a = b := h
    obtain ⟨e, c1, x, _⟩ := h'
    rw [← h, x] at g
    cases g
  | m + 1, 0, a, b, b', h, _, h', g' => by
    have h' : a = b' := h'
    obtain ⟨e, c1, x, _⟩ := h
    rw [← h', x] at g'
    cases g'
  | m + 1, n + 1, a, b, b', h, g, h', g' => by
    obtain ⟨e, c1, x, y⟩ := h
    obtain ⟨e', c1', x', y'⟩ := h'
    rw [x] at x'
    cases x'
    exact PS_d m n y g y' g'
theorem PSg_d {p p' : Nat} : ∀ (m n : Nat) {a b b' : CX} {s s1 s2 : GS}, PSg T t W m a s b s1 → tkE T t W b = .inl p → PSg T t W n a s b' s2 → tkE T t W b' = .inl p' → b = b' ∧ s1 = s2
  | 0, 0, a, b, b', s, s1, s2, h, _, h', _ => by
    obtain ⟨x, y⟩ := h
    obtain ⟨x', y'⟩ := h'
    rw [← x, ← x', ← y, ← y']
    exact ⟨rfl, rfl⟩
  | 0, n + 1, a, b, b', s, s1, s2, h, g, h', _ => by
    obtain ⟨x, y⟩ := h
    obtain ⟨e, c1, z, _⟩ := h'
    rw [← x, z] at g
    cases g
  | m + 1, 0, a, b, b', s, s1, s2, h, _, h', g' => by
    obtain ⟨x, y⟩ := h'
    obtain ⟨e, c1, z, _⟩ := h
    rw [← x, z] at g'
    cases g'
  | m + 1, n + 1, a, b, b', s, s1, s2, h, g, h', g' => by
    obtain ⟨e, c1, x, y⟩ := h
    obtain ⟨e', c1', x', y'⟩ := h'
    rw [x] at x'
    cases x'
    exact PSg_d m n y g y' g'
theorem PSn_i (hT : ∀ j, j < t → T j < 127) : ∀ (m : Nat) {a b : CX}, cxI a ≤ t → PSn T t W m a b → cxI b ≤ t
  | 0, a, b, h, g => by
    have g : a = b := g
    rw [← g]
    exact h
  | m + 1, a, b, h, g => by
    obtain ⟨e, c1, x, y⟩ := g
    exact PSn_i hT m (tk_k hT h x).2.2 y
theorem c0_i : cxI (c0X T t W) ≤ t := (cra_1 (T := T) (cra_1 (T := T) (Nat.zero_le t)).2.1).2.1
theorem tx_e (hT : ∀ j, j < t → 32 ≤ T j ∧ T j < 127) {c : CX} {s : GS} (h : txG T t W c s) : tkE T t W c = .inl t := by
  obtain ⟨_, _, _, ⟨m, hm⟩, h0, _⟩ := h
  exact tk_0 (fun j hj => (hT j hj).1) h0 (PSn_i (fun j hj => (hT j hj).2) m c0_i (PSg_n m hm))
theorem tx_RG (hT : ∀ j, j < t → 32 ≤ T j ∧ T j < 127) {c : CX} {s : GS} {p : Nat} (h : txG T t W c s) (g : txR T t p) : False := by
  have e := tx_e hT h
  obtain ⟨h1, h2, h3, ⟨m, hm⟩, h0, hD⟩ := h
  rcases g with ⟨g1, _⟩ | ⟨_, g2, _⟩ | ⟨_, _, n, c1, g3, g4, g5⟩
  · exact g1 h1
  · exact g2 h2
  · rw [← h3] at g3 g4
    have := PS_d m n (PSg_n m hm) e g3 g4
    subst this
    rcases g5 with z | z
    · exact z h0
    · exact z hD
theorem tx_GG (hT : ∀ j, j < t → 32 ≤ T j ∧ T j < 127) {W' : Nat} {c c' : CX} {s s' : GS} (h : txG T t W c s) (g : txG T t W' c' s') : W = W' ∧ c = c' ∧ s = s' := by
  have e := tx_e hT h
  have e' := tx_e hT g
  obtain ⟨h1, h2, h3, ⟨m, hm⟩, h0, hD⟩ := h
  obtain ⟨g1, g2, g3, ⟨n, gn⟩, g0, gD⟩ := g
  have ew : W = W' := h3.trans g3.symm
  subst ew
  exact ⟨rfl, PSg_d m n hm e gn e'⟩
theorem tx_RR {p p' : Nat} (h : txR T t p) (g : txR T t p') : p = p' := by
  rcases h with ⟨h1, h2⟩ | ⟨h0, h1, h2⟩ | ⟨h0, h1, m, c, h3, h4, _⟩ <;> rcases g with ⟨g1, g2⟩ | ⟨g0, g1, g2⟩ | ⟨g0, g1, n, c', g3, g4, _⟩
  · rw [h2, g2]
  · exact absurd g0 h1
  · exact absurd g0 h1
  · exact absurd h0 g1
  · rw [h2, g2]
  · exact absurd g1 h1
  · exact absurd h0 g1
  · exact absurd h1 g1
  · have e := PS_d m n h3 h4 g3 g4
    subst e
    rw [h4] at g4
    cases g4
    rfl
/-- what is noted has a kind -/
theorem tx_f (ht : t ≤ 400) (hT : ∀ j, j < t → 32 ≤ T j ∧ T j < 127) {c : CX} {s : GS} (h : txG T t W c s) : cxF c ≠ 0 → cxF c % 8 ≠ 0 := by
  generalize hM : mm_i (mm_i mm_0 109 (fun j => nI (T j))) 108 (upd (upd (upd (mm_0.1 108) 2 (nI t)) 3 0) 17 0) = M
  have hR : rjX M T t := by
    rw [← hM]
    refine ⟨ht, ?_, fun j hj => ⟨?_, hT j hj⟩⟩
    · rw [mm_i1]
      rfl
    · rw [mm_ne _ _ _ _ (by decide), mm_i1]
  have h3 : M.1 108 3 = 0 := by
    rw [← hM, mm_i1]
    rfl
  have h17 : M.1 108 17 = 0 := by
    rw [← hM, mm_i1]
    rfl
  obtain ⟨r, N, hq, _⟩ := am_det 60 false nm_X12_readText [aR 108] M _ (ct_rtx (E := 60) (by decide) hR h3 h17)
  rcases hq with ⟨_, _, p, hp, _⟩ | ⟨_, _, W', c', s', k, tl, Q, Ss, hG, hI, _⟩
  · exact absurd hp (fun g => tx_RG hT h g)
  · obtain ⟨rfl, rfl, rfl⟩ := tx_GG hT h hG
    exact fun z => (hI.2.2.1.2.2 z).1
end CSM1
section CSM2
variable {d : Nat} {M : mm_M} {T : Nat → Nat} {t n : Nat}
/-- what the class comes to -/
def ciQ (M : mm_M) (T : Nat → Nat) (t n : Nat) (r : am_R) (N : mm_M) : Prop := (n = 20 ∧ r = .inr "java/lang/IllegalStateException" ∧ N = mm_i M 0 (upd (M.1 0) 14 0)) ∨ (n < 20 ∧ ∃ K, rdF M K ∧ ((∃ F, (F % 8 ≠ 0 ∧ F < 2 ^ 20 ∧ ((∃ p, txR T t p ∧ F = 8 * p + 1) ∨ (∃ W c s, txG T t W c s ∧ W ≤ 8 ∧ ((cxF c ≠ 0 ∧ F = cxF c) ∨ (cxF c = 0 ∧ ¬ okL (gO s) ∧ F = 5 ∧ ∀ x ∈ gO s, ogd W x))))) ∧ r = .inr "java/lang/IllegalArgumentException" ∧ N = mm_i K 0 (upd (upd (upd (M.1 0) 14 0) 15 (nI (F % 8))) 16 (nI (F / 8)))) ∨ (∃ W c s, txG T t W c s ∧ W ≤ 8 ∧ cxF c = 0 ∧ okL (gO s) ∧ (∀ x ∈ gO s, ogd W x) ∧ r = .inl (some (aI (nI n))) ∧ N = kpM (dlM (mm_i K 0 (upd (upd (upd (M.1 0) 14 0) 15 0) 16 0)) (gO s)) n (gO s).length W)))
set_option maxRecDepth 100000 in
theorem ci_p {P : am_Q} {X : am_X} {O : List bk_X} (hX : am_K (d + 1) true nm_X11_circuit P X) (ol : O.length ≤ 300) (h12 : M.1 2 12 = nI O.length) (h3 : ∀ j, j < O.length → M.1 3 j = nI (bk_p (zg O j))) (hK : ∀ v, X 137 [some (aR 0), some (aI (nI t)), some (aI v)] [] (dlM M O)) : ∀ (m i : Nat), i + m = O.length → X 97 [some (aR 0), some (aI (nI t)), some (aI (nI i))] [] (dlM M (O.take i)) := by
  intro m
  induction m with
  | zero =>
    intro i hi
    obtain rfl : i = O.length := by omega
    rw [List.take_length]
    refine am_run hX 5 _ _ _ _ ?_
    conv => whnf
    rw [dl_r _ _ (by decide) (by decide), h12]
    exact ⟨fun _ => hK _, fun y => absurd (nI_le (Nat.le_refl _) (by omega)) y⟩
  | succ m ih =>
    intro i hi
    refine am_run hX 5 _ _ _ _ ?_
    conv => whnf
    rw [dl_r _ _ (by decide) (by decide), h12]
    refine ⟨fun y => absurd y (nI_ge (by omega) (by omega)), fun _ => ?_⟩
    refine am_run hX 3 _ _ _ _ ?_
    conv => whnf
    refine ⟨fun y => absurd y (nI_ge (b := 300) (by omega) (by decide)), fun _ => ?_⟩
    refine am_run hX 7 _ _ _ _ ?_
    conv => whnf
    refine ⟨vp_in_nI (by show i < 300; omega) (by decide), ?_⟩
    rw [nI_clamp (n := i) (by omega), dl_r _ _ (by decide) (by decide), h3 i (by omega)]
    refine am_run hX 1 _ _ _ _ ?_
    conv => whnf
    refine am_c0 (ct_putL (d := d) (x := zg O i) rfl (by rw [List.length_take]; omega)) ?_
    rw [← zg_tk (by omega)]
    refine am_run hX 2 _ _ _ _ ?_
    conv => whnf
    rw [nI_1]
    exact ih (i + 1) (by omega)
set_option maxRecDepth 100000 in
theorem ct_ciC (ht : t ≤ 400) (e14 : M.1 0 14 = nI t) (hT : ∀ j, j < t → M.1 1 j = nI (T j) ∧ 32 ≤ T j ∧ T j < 127) (h97 : M.1 9 7 = nI n) (hn : n ≤ 20) : am_M 999 true nm_X11_circuit [aR 0] M (ciQ M T t n) := by
  refine ⟨rfl, rfl, rfl, fun X hX => am_run hX 3 _ _ _ _ ?_⟩
  conv => whnf
  rw [e14]
  refine am_run hX 3 _ _ _ _ ?_
  conv => whnf
  generalize hK : mm_i M 0 (upd (M.1 0) 14 0) = K
  have k1 : ∀ k, k ≠ 0 → K.1 k = M.1 k := fun k hk => by rw [← hK, mm_ne _ _ _ _ hk]
  have k0 : K.1 0 = upd (M.1 0) 14 0 := by rw [← hK, mm_i1]
  have k2 : K.2 = M.2 := by rw [← hK]; rfl
  refine am_run hX 5 _ _ _ _ ?_
  conv => whnf
  rw [k1 9 (by decide), h97]
  by_cases n20 : n = 20
  · rw [n20]
    refine ⟨fun y => absurd y (by decide), fun _ => ?_⟩
    refine am_run hX 1 _ _ _ _ ?_
    conv => whnf
    exact ⟨⟨by decide, rfl⟩, Or.inl ⟨n20, rfl, hK.symm⟩⟩
  · have n20 : n < 20 := by omega
    refine ⟨fun _ => ?_, fun y => absurd (nI_lt (b := 20) n20 (by decide)) y⟩
    refine am_run hX 6 _ _ _ _ ?_
    conv => whnf
    refine am_cq (ct_read (d := 988) (M := K) (T := T) (t := t) ht (fun j hj => by rw [k1 1 (by decide)]; exact hT j hj)) ?_
    rintro r1 N ⟨rfl, F1, R1⟩
    refine ⟨_, rfl, ?_⟩
    -- the memory's own part
    obtain ⟨K', g1, g2⟩ : ∃ K' : mm_M, rdF M K' ∧ ∀ f, mm_i N 0 f = mm_i K' 0 f := by
      refine ⟨mm_i N 0 (M.1 0), ⟨fun k hk => ?_, ?_⟩, fun f => by rw [mm_ii]⟩
      · by_cases z : k = 0
        · rw [z, mm_i1]
        · rw [mm_ne _ _ _ _ z, F1.1 k hk, k1 k z]
      · show N.2 = M.2
        rw [F1.2, k2]
    have n0 : N.1 0 = upd (M.1 0) 14 0 := by rw [F1.1 0 (by decide), k0]
    have fault : ∀ F : Nat, F < 2 ^ 20 → N.1 2 19 = nI F → X 71 [some (aR 0), some (aI (nI t)), none] [] (mm_i N 0 (upd (upd (upd (M.1 0) 14 0) 15 (nI (F % 8))) 16 (nI (F / 8)))) → X 44 [some (aR 0), some (aI (nI t)), none] [] N := by
      intro F Fl e h
      refine am_run hX 7 _ _ _ _ ?_
      conv => whnf
      rw [e, nI_m7, n0]
      refine am_run hX 7 _ _ _ _ ?_
      conv => whnf
      rw [mm_ne _ _ _ _ (by decide : (2 : Nat) ≠ 0), e, mm_i1, mm_ii, show nI F >>> ((3 : Int32) &&& 31) = nI (F / 2 ^ 3) from nI_sh (by omega) 3 (by decide)]
      exact h
    have bad : ∀ F : Nat, F % 8 ≠ 0 → F < 2 ^ 20 → N.1 2 19 = nI F → ((∃ p, txR T t p ∧ F = 8 * p + 1) ∨ (∃ W c s, txG T t W c s ∧ W ≤ 8 ∧ ((cxF c ≠ 0 ∧ F = cxF c) ∨ (cxF c = 0 ∧ ¬ okL (gO s) ∧ F = 5 ∧ ∀ x ∈ gO s, ogd W x)))) → X 44 [some (aR 0), some (aI (nI t)), none] [] N := by
      intro F F8 Fl e h
      refine fault F Fl e ?_
      refine am_run hX 3 _ _ _ _ ?_
      conv => whnf
      rw [show (mm_i N 0 (upd (upd (upd (M.1 0) 14 0) 15 (nI (F % 8))) 16 (nI (F / 8)))).1 0 15 = nI (F % 8) from by rw [mm_i1, up_ne (by decide)]; exact up_at]
      refine ⟨fun y => absurd y (nI_ne0 (n := F % 8) (by omega) (by omega)), fun _ => ?_⟩
      refine am_run hX 1 _ _ _ _ ?_
      conv => whnf
      exact ⟨⟨by decide, rfl⟩, Or.inr ⟨n20, K', g1, Or.inl ⟨F, ⟨F8, Fl, h⟩, rfl, g2 _⟩⟩⟩
    rcases R1 with ⟨p, hp, pt, e⟩ | ⟨W, c, s, hG, h10, hO, hV, hV3, r4, cW, cl, hf⟩
    · exact bad (8 * p + 1) (by omega) (by omega) e (Or.inl ⟨p, hp, rfl⟩)
    · rcases hf with ⟨f0, e⟩ | ⟨f0, ok, e⟩ | ⟨f0, ok, e⟩
      · exact bad (cxF c) (tx_f ht (fun j hj => (hT j hj).2) hG f0) cl e (Or.inr ⟨W, c, s, hG, hV.1, Or.inl ⟨f0, rfl⟩⟩)
      · have W8 : W ≤ 8 := hV.1
        have og := (hV3 f0).1
        rw [cW] at og
        refine fault 0 (by decide) e ?_
        have em : mm_i N 0 (upd (upd (upd (M.1 0) 14 0) 15 (nI (0 % 8))) 16 (nI (0 / 8))) = mm_i N 0 (upd (upd (upd (M.1 0) 14 0) 15 0) 16 0) := rfl
        rw [em]
        have v1 : ∀ k, k ≠ 0 → (mm_i N 0 (upd (upd (upd (M.1 0) 14 0) 15 0) 16 0)).1 k = N.1 k := fun k hk => mm_ne _ _ _ _ hk
        have v15 : (mm_i N 0 (upd (upd (upd (M.1 0) 14 0) 15 0) 16 0)).1 0 15 = 0 := by rw [mm_i1, up_ne (by decide)]; exact up_at
        have gK : mm_i N 0 (upd (upd (upd (M.1 0) 14 0) 15 0) 16 0) = mm_i K' 0 (upd (upd (upd (M.1 0) 14 0) 15 0) 16 0) := g2 _
        generalize mm_i N 0 (upd (upd (upd (M.1 0) 14 0) 15 0) 16 0) = N3 at *
        refine am_run hX 3 _ _ _ _ ?_
        conv => whnf
        rw [v15]
        refine ⟨fun _ => ?_, fun y => absurd rfl y⟩
        refine am_run hX 3 _ _ _ _ ?_
        conv => whnf
        refine am_c0 (ct_stDL (d := 997) (M := N3)) ?_
        refine am_run hX 2 _ _ _ _ ?_
        conv => whnf
        have ol := ok.1
        refine ci_p (d := 997) (M := N3) (O := gO s) hX ol (by rw [v1 2 (by decide), hO.1]; congr 1; omega) (fun j hj => by rw [v1 3 (by decide)]; exact hO.2 ol j hj) (fun v => ?_) (gO s).length 0 (by omega)
        refine am_run hX 6 _ _ _ _ ?_
        conv => whnf
        rw [dl_r _ _ (by decide) (by decide), v1 2 (by decide), h10]
        refine am_c1 (ct_keep1 (d := 995) (M := N3) (n := n) (W := W) (V := W) (l := gO s) (by rw [v1 9 (by decide), F1.1 9 (by decide), k1 9 (by decide)]; exact h97) n20 W8 (fun j hj => (og _ (zg_mem hj)).1) ok) ?_
        refine am_run hX 1 _ _ _ _ ?_
        conv => whnf
        exact ⟨trivial, Or.inr ⟨n20, K', g1, Or.inr ⟨W, c, s, hG, W8, f0, ok, og, rfl, by rw [gK]⟩⟩⟩
      · exact bad 5 (by decide) (by decide) e (Or.inr ⟨W, c, s, hG, hV.1, Or.inr ⟨f0, ok, rfl, by rw [← cW]; exact (hV3 f0).1⟩⟩)
end CSM2
