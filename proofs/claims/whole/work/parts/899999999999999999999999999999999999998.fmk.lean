/-! FORM: the reference's Cliffords -/
def mxW (f : Nat → Int64) (a : Nat) (w : List Nat) : Prop := mxE f a (wk w) (rw0 w) (rw1 w)
def kw (q : Nat) : List Nat := kyW.getD q []
def fcN (s : Nat) : Nat := ([1, 2, 3, 3, 4, 5, 6, 7, 8, 8, 9, 10, 11, 11, 12, 13, 14, 14, 15, 15, 16, 16, 16, 16, 17, 17, 18, 18, 18, 19, 20, 20, 21, 22, 23, 23, 24, 24, 24, 24, 24, 24, 24, 24, 24, 24, 24, 24, 24] : List Nat).getD s 24
def gl (l : Nat) : Nat := if l = 1 then 3 else 4
def wS (s : Nat) : List Nat := kw (s / 2) ++ [if s % 2 = 0 then 3 else 4]
def anN (p : Nat → Bool) : Nat → Bool
  | 0 => false
  | n + 1 => anN p n || p n
theorem an_iff {p : Nat → Bool} : ∀ n, anN p n = true ↔ ∃ i, i < n ∧ p i = true
  | 0 => ⟨fun h => absurd h Bool.false_ne_true, fun ⟨i, hi, _⟩ => absurd hi (Nat.not_lt_zero _)⟩
  | n + 1 => by
    show (anN p n || p n) = true ↔ _
    rw [Bool.or_eq_true_iff, an_iff n]
    constructor
    · rintro (⟨i, a, b⟩ | h)
      · exact ⟨i, by omega, b⟩
      · exact ⟨n, by omega, h⟩
    · rintro ⟨i, a, b⟩
      by_cases e : i = n
      · exact Or.inr (by rw [← e]; exact b)
      · exact Or.inl ⟨i, by omega, b⟩
/-- two words' matrices are alike -/
def lkW (u v : List Nat) : Bool := anN (lkB' (wk u) (rw0 u) (rw1 u) (wk v) (rw0 v) (rw1 v)) 8
def fcB (s : Nat) : Bool := if anN (fun q => lkW (wS s) (kw q)) (fcN s) = true then decide (fcN (s + 1) = fcN s) else decide (fcN (s + 1) = fcN s + 1) && decide (kw (fcN s) = wS s)
set_option maxRecDepth 100000 in
theorem fc_all : ((List.range 48).all fcB) = true := by decide +kernel
theorem fc_s {s : Nat} (hs : s < 48) : (anN (fun q => lkW (wS s) (kw q)) (fcN s) = true ∧ fcN (s + 1) = fcN s) ∨ (anN (fun q => lkW (wS s) (kw q)) (fcN s) = false ∧ fcN (s + 1) = fcN s + 1 ∧ kw (fcN s) = wS s) := by
  have h := List.all_eq_true.mp fc_all s (List.mem_range.mpr hs)
  unfold fcB at h
  cases hq : anN (fun q => lkW (wS s) (kw q)) (fcN s) with
  | true =>
    rw [hq, if_pos rfl] at h
    exact Or.inl ⟨rfl, of_decide_eq_true h⟩
  | false =>
    rw [hq, if_neg (by decide)] at h
    obtain ⟨a, b⟩ := (Bool.and_eq_true _ _).mp h
    exact Or.inr ⟨rfl, of_decide_eq_true a, of_decide_eq_true b⟩
theorem cn_f : ∀ s, s < 49 → fcN s ≤ 24 ∧ (s < 48 → s / 2 < fcN s) ∧ 1 ≤ fcN s := by decide
theorem kw_f : ∀ q, q < 24 → (kw q).length ≤ 6 ∧ wk (kw q) ≤ 6 ∧ ∀ k, k < 6 → k < (kw q).length → (kw q).getD k 0 = 3 ∨ (kw q).getD k 0 = 4 := by decide
def ltN (g : Nat) : Nat := if g = 3 then 1 else 2
/-- Clifford q is at its place -/
def kwA (N : mm_M) (q : Nat) : Prop := N.1 192 q = nI (kw q).length ∧ (∀ k, k < (kw q).length → N.1 191 (20 * q + k) = nI (ltN ((kw q).getD k 0))) ∧ mxW (N.2 190) (20 * q) (kw q)
def tbN (N : mm_M) (n : Nat) : Prop := N.1 108 131 = nI n ∧ ∀ q, q < n → kwA N q
theorem p2_120 {k : Nat} (h : k ≤ 120) : (2 : Int) ^ k ≤ 2 ^ 120 := p120 h
theorem nw_120 {w : List Nat} (h : wk w ≤ 120) : nrm (rw0 w).1 ≤ 2 ^ 120 ∧ nrm (rw0 w).2 ≤ 2 ^ 120 ∧ nrm (rw1 w).1 ≤ 2 ^ 120 ∧ nrm (rw1 w).2 ≤ 2 ^ 120 := by
  obtain ⟨a, b, c, d⟩ := nm_w w
  have p := p120 h
  exact ⟨by omega, by omega, by omega, by omega⟩
theorem bd_w {w : List Nat} (h : wk w ≤ 120) : ∀ i, i < 4 → bd (en (rw0 w) (rw1 w) i) := by
  obtain ⟨a, b, c, d⟩ := nw_120 h
  intro i hi
  have : i = 0 ∨ i = 1 ∨ i = 2 ∨ i = 3 := by omega
  rcases this with rfl | rfl | rfl | rfl
  · exact nrm_b2 a
  · exact nrm_b2 b
  · exact nrm_b2 c
  · exact nrm_b2 d
section FMK
variable {d : Nat} {M : mm_M}
theorem ct_lW186 {w : List Nat} {g : Nat} (hg : g < 8) (hw : wk w ≤ 120) (h : mxW (M.2 186) 0 w) : am_M (d + 3) false nm_X12_left [aR 108, aR 186, aI 0, aI (nI g)] M (fun r N => r = .inl none ∧ lfF 186 M N ∧ mxW (N.2 186) 0 (g :: w)) := by
  obtain ⟨a, b, c, e⟩ := nw_120 hw
  refine am_wk (ct_left186 (d := d) (M := M) (K := wk w) (x := rw0 w) (y := rw1 w) hg (by omega) a b c e h) fun r N q => ⟨q.1, q.2.1, ?_⟩
  show mxE (N.2 186) 0 (wk w + hk g) ((gv g (wv w e0)).1, (gv g (wv w e1)).1) ((gv g (wv w e0)).2, (gv g (wv w e1)).2)
  exact q.2.2
theorem ct_lW187 {w : List Nat} {g : Nat} (hg : g < 8) (hw : wk w ≤ 120) (h : mxW (M.2 187) 0 w) : am_M (d + 3) false nm_X12_left [aR 108, aR 187, aI 0, aI (nI g)] M (fun r N => r = .inl none ∧ lfF 187 M N ∧ mxW (N.2 187) 0 (g :: w)) := by
  obtain ⟨a, b, c, e⟩ := nw_120 hw
  refine am_wk (ct_left187 (d := d) (M := M) (K := wk w) (x := rw0 w) (y := rw1 w) hg (by omega) a b c e h) fun r N q => ⟨q.1, q.2.1, ?_⟩
  show mxE (N.2 187) 0 (wk w + hk g) ((gv g (wv w e0)).1, (gv g (wv w e1)).1) ((gv g (wv w e0)).2, (gv g (wv w e1)).2)
  exact q.2.2
theorem wk_1 (g : Nat) (w : List Nat) : wk (g :: w) ≤ wk w + 1 := by
  show wk w + hk g ≤ _
  unfold hk
  split <;> omega
set_option maxRecDepth 100000 in
theorem mw_l {P : am_Q} {X : am_X} {q g : Nat} {v2 : Int32} (hX : am_K (d + 3) false nm_X12_makeWord P X) (hq : q < 24) (hA : kwA M q) (hP : ∀ N, lfF 187 M N → mxW (N.2 187) 0 (kw q ++ [g]) → P (.inl none) N) : ∀ (j : Nat) (N : mm_M), j ≤ (kw q).length → lfF 187 M N → mxW (N.2 187) 0 ((kw q).drop j ++ [g]) → wk ((kw q).drop j ++ [g]) + j ≤ 20 → X 37 [some (aR 108), some (aI (nI q)), some (aI v2), some (aI (nI j + -1))] [] N := by
  obtain ⟨k1, k2, k3⟩ := kw_f q hq
  intro j
  induction j with
  | zero =>
    intro N hj hF hW _
    refine am_run hX 2 _ _ _ _ ?_
    conv => whnf
    refine ⟨fun _ => ?_, fun z => absurd (by decide) z⟩
    refine am_run hX 1 _ _ _ _ ?_
    conv => whnf
    exact ⟨trivial, hP N hF hW⟩
  | succ j ih =>
    intro N hj hF hW hb
    have jl : j < (kw q).length := hj
    have ed : (kw q).drop j ++ [g] = (kw q).getD j 0 :: ((kw q).drop (j + 1) ++ [g]) := by rw [drp_c jl]; rfl
    have e1 : 20 * nI q + nI j = nI (20 * q + j) := by rw [show (20 : Int32) = nI 20 from rfl, nI_mul, nI_add]
    have ha : N.1 191 (20 * q + j) = nI (ltN ((kw q).getD j 0)) := by rw [hF.1]; exact hA.2.1 j jl
    have hg := k3 j (by omega) jl
    rw [nI_d1]
    refine am_run hX 2 _ _ _ _ ?_
    conv => whnf
    refine ⟨fun z => absurd z (nI_n0 (by omega)), fun _ => ?_⟩
    have go : ∀ v : Int32, v = nI ((kw q).getD j 0) → X 67 [some (aR 108), some (aI (nI q)), some (aI v2), some (aI (nI j))] [aI v, aI 0, aR 187, aR 108] N := by
      intro v hv
      subst hv
      refine am_run hX 1 _ _ _ _ ?_
      conv => whnf
      refine am_cq (ct_lW187 (d := d) (g := (kw q).getD j 0) (by omega) (by omega) hW) ?_
      rintro r1 N1 ⟨rfl, f1, o1⟩
      refine ⟨none, rfl, ?_⟩
      refine am_run hX 2 _ _ _ _ ?_
      conv => whnf
      refine ih N1 (by omega) (lfF_t hF f1) (by rw [ed]; exact o1) ?_
      rw [ed]
      have := wk_1 ((kw q).getD j 0) ((kw q).drop (j + 1) ++ [g])
      omega
    refine am_run hX 14 _ _ _ _ ?_
    conv => whnf
    rw [e1]
    refine ⟨vp_in_nI (by show _ < 480; omega) (by decide), ?_⟩
    conv => whnf
    rw [nI_clamp (n := 20 * q + j) (by omega), ha]
    rcases hg with e | e
    · rw [e]
      refine ⟨fun z => absurd rfl z, fun _ => ?_⟩
      refine am_run hX 2 _ _ _ _ ?_
      conv => whnf
      exact go _ (by rw [e]; rfl)
    · rw [e]
      refine ⟨fun _ => ?_, fun z => absurd (by decide) z⟩
      refine am_run hX 1 _ _ _ _ ?_
      conv => whnf
      exact go _ (by rw [e]; rfl)
set_option maxRecDepth 100000 in
theorem ct_mkW {q l : Nat} (hq : q < 24) (hl : l = 1 ∨ l = 2) (hA : kwA M q) : am_M (d + 4) false nm_X12_makeWord [aR 108, aI (nI q), aI (nI l)] M (fun r N => r = .inl none ∧ lfF 187 M N ∧ mxW (N.2 187) 0 (kw q ++ [gl l])) := by
  obtain ⟨k1, k2, k3⟩ := kw_f q hq
  refine ⟨rfl, rfl, rfl, fun X hX => am_run hX 5 _ _ _ _ ?_⟩
  conv => whnf
  refine am_cq (ct_un187 (d := d + 2)) ?_
  rintro r1 N1 ⟨rfl, f1, o1, _⟩
  refine ⟨none, rfl, ?_⟩
  have F1 : lfF 187 M N1 := ⟨f1.1, fun k _ _ _ a => f1.2 k a⟩
  have go : ∀ v : Int32, v = nI (gl l) → X 25 [some (aR 108), some (aI (nI q)), some (aI (nI l)), none] [aI v, aI 0, aR 187, aR 108] N1 := by
    intro v hv
    subst hv
    have g4 : gl l < 8 := by unfold gl; split <;> decide
    refine am_run hX 1 _ _ _ _ ?_
    conv => whnf
    refine am_cq (ct_lW187 (d := d) (w := []) (g := gl l) g4 (by decide) o1) ?_
    rintro r2 N2 ⟨rfl, f2, o2⟩
    refine ⟨none, rfl, ?_⟩
    have F2 := lfF_t F1 f2
    refine am_run hX 7 _ _ _ _ ?_
    conv => whnf
    refine ⟨vp_in_nI (by show q < 24; omega) (by decide), ?_⟩
    conv => whnf
    rw [nI_clamp (n := q) (by omega), F2.1, hA.1, nI_s1']
    have e : (kw q).drop (kw q).length = [] := List.drop_length
    refine mw_l (d := d) (M := M) (q := q) (g := gl l) hX hq hA (fun N f o => ⟨rfl, f, o⟩) (kw q).length N2 (Nat.le_refl _) F2 (by rw [e]; exact o2) ?_
    rw [e]
    have := wk_1 (gl l) []
    have e0 : wk [] = 0 := rfl
    show wk [gl l] + _ ≤ _
    omega
  refine am_run hX 7 _ _ _ _ ?_
  conv => whnf
  rcases hl with rfl | rfl
  · refine ⟨fun z => absurd rfl z, fun _ => ?_⟩
    refine am_run hX 2 _ _ _ _ ?_
    conv => whnf
    exact go _ rfl
  · refine ⟨fun _ => ?_, fun z => absurd (by decide) z⟩
    refine am_run hX 1 _ _ _ _ ?_
    conv => whnf
    exact go _ rfl
end FMK
