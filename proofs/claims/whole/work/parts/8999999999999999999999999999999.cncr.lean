/-! derive, CANCELLED: the reference -/
/-- what is laid at the reference -/
def lrf (N : mm_M) (n : Nat) (l : List bk_X) : Prop := l.length ≤ 300 ∧ N.1 108 6 = nI n ∧ N.1 108 36 = nI l.length ∧ ∀ j, j < l.length → rfO N (300 * n + j) (zg l j)
def lrF (n : Nat) (M N : mm_M) : Prop := (∀ k, k ≠ 108 → k < 112 ∨ 115 < k → N.1 k = M.1 k) ∧ N.2 = M.2 ∧ (∀ y, y ≠ 36 → N.1 108 y = M.1 108 y) ∧ ∀ k a, 112 ≤ k → k ≤ 115 → a < 300 * n → N.1 k a = M.1 k a
theorem lrF_r (n : Nat) (M : mm_M) : lrF n M M := ⟨fun _ _ _ => rfl, rfl, fun _ _ => rfl, fun _ _ _ _ _ => rfl⟩
theorem lrF_t {n : Nat} {M N K : mm_M} (h : lrF n M N) (g : lrF n N K) : lrF n M K := ⟨fun k a b => (g.1 k a b).trans (h.1 k a b), g.2.1.trans h.2.1, fun y a => (g.2.2.1 y a).trans (h.2.2.1 y a), fun k a b c e => (g.2.2.2 k a b c e).trans (h.2.2.2 k a b c e)⟩
theorem lrF_f {n : Nat} {M : mm_M} {v : Int32} : lrF n M (mm_i M 108 (upd (M.1 108) 36 v)) := ⟨fun j a _ => mm_ne _ _ _ _ a, rfl, fun y hy => by rw [mm_i1]; exact if_neg hy, fun k a b c _ => by rw [mm_ne _ _ _ _ (by omega)]⟩
theorem lrF_i {n k a : Nat} {M : mm_M} {v : Int32} (hk : 112 ≤ k ∧ k ≤ 115) (ha : 300 * n ≤ a) : lrF n M (mm_i M k (upd (M.1 k) a v)) := by
  refine ⟨fun j b c => mm_ne _ _ _ _ (by omega), rfl, fun y _ => by rw [mm_ne _ _ _ _ (by omega)], fun j b c e f => ?_⟩
  by_cases q : j = k
  · subst q
    rw [mm_i1]
    exact if_neg (by omega)
  · rw [mm_ne _ _ _ _ q]
/-- an OP is written -/
def wr4 (N : mm_M) (a : Nat) (x : bk_X) : mm_M := mm_i (mm_i (mm_i (mm_i N 112 (upd (N.1 112) a (nI x.1))) 113 (upd (N.1 113) a (nI x.2.1))) 114 (upd (N.1 114) a (nI x.2.2.1))) 115 (upd (N.1 115) a (nI x.2.2.2.1))
theorem wr4_e {N : mm_M} {a b : Nat} {x u : bk_X} (h : b ≠ a → rfO N b u) (hu : b = a → u = x) : rfO (wr4 N a x) b u := by
  unfold rfO wr4
  rw [mm_ne _ 115 112 _ (by decide), mm_ne _ 114 112 _ (by decide), mm_ne _ 113 112 _ (by decide), mm_i1, mm_ne _ 115 113 _ (by decide), mm_ne _ 114 113 _ (by decide), mm_i1, mm_ne _ 115 114 _ (by decide), mm_i1, mm_i1]
  by_cases q : b = a
  · rw [hu q, q]
    exact ⟨if_pos rfl, if_pos rfl, if_pos rfl, if_pos rfl⟩
  · obtain ⟨h1, h2, h3, h4⟩ := h q
    exact ⟨(if_neg q).trans h1, (if_neg q).trans h2, (if_neg q).trans h3, (if_neg q).trans h4⟩
theorem wr4_f {n a : Nat} {N : mm_M} {x : bk_X} (ha : 300 * n ≤ a) : lrF n N (wr4 N a x) := by
  refine ⟨fun j b c => ?_, rfl, fun y _ => ?_, fun j b c e f => ?_⟩
  · unfold wr4
    rw [mm_ne _ _ _ _ (by omega), mm_ne _ _ _ _ (by omega), mm_ne _ _ _ _ (by omega), mm_ne _ _ _ _ (by omega)]
  · unfold wr4
    rw [mm_ne _ _ _ _ (by decide), mm_ne _ _ _ _ (by decide), mm_ne _ _ _ _ (by decide), mm_ne _ _ _ _ (by decide)]
  · have hb : b ≠ a := by omega
    unfold wr4
    rcases (by omega : j = 112 ∨ j = 113 ∨ j = 114 ∨ j = 115) with rfl | rfl | rfl | rfl
    · rw [mm_ne _ 115 112 _ (by decide), mm_ne _ 114 112 _ (by decide), mm_ne _ 113 112 _ (by decide), mm_i1]
      exact if_neg hb
    · rw [mm_ne _ 115 113 _ (by decide), mm_ne _ 114 113 _ (by decide), mm_i1]
      exact if_neg hb
    · rw [mm_ne _ 115 114 _ (by decide), mm_i1]
      exact if_neg hb
    · rw [mm_i1]
      exact if_neg hb
theorem cnS_r {l : List bk_X} {i j : Nat} (hij : i < j) (hj : j < l.length) (h : ¬ togN (zg l i) (zg l j) = 0) : cnS l i j = (l.eraseIdx j).set i (keN (togN (zg l i) (zg l j)), (zg l i).2) := by
  have e : cnS l i j = (l.set i (keN (togN (zg l i) (zg l j)), (zg l i).2)).eraseIdx j := if_neg h
  have hl : (l.eraseIdx j).length = l.length - 1 := by rw [List.length_eraseIdx, if_pos hj]
  rw [e]
  refine zg_ex (by rw [List.length_eraseIdx, List.length_set, List.length_set, hl, if_pos hj]) (fun k hk => ?_)
  rw [List.length_eraseIdx, List.length_set, if_pos hj] at hk
  rw [zg_er, zg_st l _ (by omega) k, zg_st l _ (by omega) (k + 1), zg_st (l.eraseIdx j) _ (by rw [hl]; omega) k, zg_er l j k]
  by_cases q : k = i
  · rw [if_pos (by omega), if_pos q, if_pos q]
  · rw [if_neg q, if_neg q]
    by_cases y : k < j
    · rw [if_pos y, if_pos y]
    · rw [if_neg y, if_neg y, if_neg (by omega)]
section CNR
variable {d : Nat} {M : mm_M} {W n : Nat}
set_option maxRecDepth 100000 in
theorem dp_l {l : List bk_X} {a : Nat} {P : am_Q} {X : am_X} (hX : am_K d false nm_X12_drop P X) (hn : n < 20) (hl : l.length ≤ 300) (ha : a < l.length) (hK : ∀ N, lrF n M N → lrf N n (l.eraseIdx a) → P (.inl none) N) : ∀ (m i : Nat) (N : mm_M), i + m = l.length - 1 → a ≤ i → lrF n M N → N.1 108 6 = nI n → N.1 108 36 = nI (l.length - 1) → (∀ j, j < l.length → rfO N (300 * n + j) (if a ≤ j ∧ j < i then zg l (j + 1) else zg l j)) → X 12 [some (aR 108), some (aI (nI (300 * n + a))), some (aI (nI (300 * n + i)))] [] N := by
  intro m
  induction m with
  | zero =>
    intro i N hi hai hF h6 h36 hc
    refine am_run hX 10 _ _ _ _ ?_
    conv => whnf
    rw [h6, h36, show (300 : Int32) = nI 300 from rfl, nI_mul, nI_add]
    refine ⟨fun _ => ?_, fun q => absurd (nI_le (by omega) (by omega)) q⟩
    conv => whnf
    refine ⟨trivial, hK N hF ⟨?_, h6, ?_, fun j hj => ?_⟩⟩
    · rw [List.length_eraseIdx]
      split <;> omega
    · rw [List.length_eraseIdx, if_pos ha]
      exact h36
    · rw [List.length_eraseIdx, if_pos ha] at hj
      have := hc j (by omega)
      rw [zg_er]
      by_cases q : j < a
      · rw [if_neg (by omega)] at this
        rw [if_pos q]
        exact this
      · rw [if_pos (by omega)] at this
        rw [if_neg q]
        exact this
  | succ m ih =>
    intro i N hi hai hF h6 h36 hc
    have hr := hc (i + 1) (by omega)
    rw [if_neg (by omega)] at hr
    obtain ⟨r2, r3, r4, r5⟩ := hr
    have hI1 : vp_in (nI (300 * n + i + 1)) 6300 := vp_in_nI (by omega) (by decide)
    have hI0 : vp_in (nI (300 * n + i)) 6300 := vp_in_nI (by omega) (by decide)
    have c1 : (nI (300 * n + i + 1)).toNatClampNeg = 300 * n + (i + 1) := by
      rw [nI_clamp (by omega)]
      omega
    refine am_run hX 9 _ _ _ _ ?_
    conv => whnf
    rw [h6, h36, show (300 : Int32) = nI 300 from rfl, nI_mul, nI_add]
    refine ⟨fun q => absurd q (nI_ge (by omega) (by omega)), fun _ => ?_⟩
    refine am_run hX 42 _ _ _ _ ?_
    conv => whnf
    rw [nI_1]
    refine ⟨hI1, ?_⟩
    conv => whnf
    refine ⟨hI0, ?_⟩
    conv => whnf
    rw [nI_1]
    refine ⟨hI1, ?_⟩
    conv => whnf
    refine ⟨hI0, ?_⟩
    conv => whnf
    rw [nI_1]
    refine ⟨hI1, ?_⟩
    conv => whnf
    refine ⟨hI0, ?_⟩
    conv => whnf
    rw [nI_1]
    refine ⟨hI1, ?_⟩
    conv => whnf
    refine ⟨hI0, ?_⟩
    conv => whnf
    rw [c1, nI_clamp (n := 300 * n + i) (by omega), nI_1]
    have key := ih (i + 1) (wr4 N (300 * n + i) (zg l (i + 1))) (by omega) (by omega) (lrF_t hF (wr4_f (by omega))) ?_ ?_ (fun j hj => wr4_e (fun q => ?_) (fun q => ?_))
    · have ew : mm_i (mm_i (mm_i (mm_i N 112 (upd (N.1 112) (300 * n + i) (N.1 112 (300 * n + (i + 1))))) 113 (upd ((mm_i N 112 (upd (N.1 112) (300 * n + i) (N.1 112 (300 * n + (i + 1))))).1 113) (300 * n + i) ((mm_i N 112 (upd (N.1 112) (300 * n + i) (N.1 112 (300 * n + (i + 1))))).1 113 (300 * n + (i + 1))))) 114 (upd ((mm_i (mm_i N 112 (upd (N.1 112) (300 * n + i) (N.1 112 (300 * n + (i + 1))))) 113 (upd ((mm_i N 112 (upd (N.1 112) (300 * n + i) (N.1 112 (300 * n + (i + 1))))).1 113) (300 * n + i) ((mm_i N 112 (upd (N.1 112) (300 * n + i) (N.1 112 (300 * n + (i + 1))))).1 113 (300 * n + (i + 1))))).1 114) (300 * n + i) ((mm_i (mm_i N 112 (upd (N.1 112) (300 * n + i) (N.1 112 (300 * n + (i + 1))))) 113 (upd ((mm_i N 112 (upd (N.1 112) (300 * n + i) (N.1 112 (300 * n + (i + 1))))).1 113) (300 * n + i) ((mm_i N 112 (upd (N.1 112) (300 * n + i) (N.1 112 (300 * n + (i + 1))))).1 113 (300 * n + (i + 1))))).1 114 (300 * n + (i + 1))))) 115 (upd (N.1 115) (300 * n + i) (N.1 115 (300 * n + (i + 1)))) = wr4 N (300 * n + i) (zg l (i + 1)) := by
        unfold wr4
        rw [mm_ne _ 113 114 _ (by decide), mm_ne _ 112 114 _ (by decide), mm_ne _ 112 113 _ (by decide), r2, r3, r4, r5]
      rw [← ew] at key
      exact key
    · show N.1 108 6 = _
      exact h6
    · show N.1 108 36 = _
      exact h36
    · have := hc j hj
      by_cases y : a ≤ j ∧ j < i
      · rw [if_pos y] at this
        rw [if_pos (by omega)]
        exact this
      · rw [if_neg y] at this
        rw [if_neg (by omega)]
        exact this
    · have : j = i := by omega
      subst this
      rw [if_pos (by omega)]
set_option maxRecDepth 100000 in
theorem ct_drop {l : List bk_X} {a : Nat} (hn : n < 20) (h : lrf M n l) (ha : a < l.length) : am_M (d + 1) false nm_X12_drop [aR 108, aI (nI (300 * n + a))] M (fun r N => r = .inl none ∧ lrF n M N ∧ lrf N n (l.eraseIdx a)) := by
  obtain ⟨hl, h6, h36, hc⟩ := h
  refine ⟨rfl, rfl, rfl, fun X hX => am_run hX 8 _ _ _ _ ?_⟩
  conv => whnf
  rw [h36, show nI l.length - 1 = nI (l.length - 1) from by rw [show (1 : Int32) = nI 1 from rfl, nI_sub (by omega)]]
  refine dp_l (d := d) (M := M) hX hn hl ha (fun N a b => ⟨rfl, a, b⟩) (l.length - 1 - a) a _ (by omega) (Nat.le_refl _) lrF_f ?_ ?_ (fun j hj => ?_)
  · rw [mm_i1]
    exact h6
  · rw [mm_i1]
    rfl
  · rw [if_neg (by omega)]
    exact hc j hj
set_option maxRecDepth 100000 in
theorem cnr_j {l : List bk_X} {i : Nat} {P : am_Q} {X : am_X} (hX : am_K (d + 2) false nm_X12_cancelOnce P X) (hn : n < 20) (hW : W ≤ 8) (h : lrf M n l) (hw : allO W l) (hi : i < l.length) (hS : ∀ j, cnJ l i (l.length - (i + 1)) (i + 1) = some j → ∀ N, lrF n M N → lrf N n (cnS l i j) → P (.inl (some (aI 1))) N) (hN : cnJ l i (l.length - (i + 1)) (i + 1) = none → ∀ (v : Int32) l4 l5, X 116 [some (aR 108), some (aI (nI (300 * n))), some (aI (nI (300 * n + i))), some (aI v), l4, l5] [] M) : ∀ (m j : Nat) (l5 : Option am_V), j + m = l.length → i < j → cnJ l i (l.length - (i + 1)) (i + 1) = cnJ l i m j → X 28 [some (aR 108), some (aI (nI (300 * n))), some (aI (nI (300 * n + i))), some (aI 1), some (aI (nI (300 * n + j))), l5] [] M := by
  have h0 := h
  obtain ⟨hl, h6, h36, hc⟩ := h
  have gi := (hw i hi).1
  have li := wsN_l hW gi.1
  intro m
  induction m with
  | zero =>
    intro j l5 hj hij e
    refine am_run hX 6 _ _ _ _ ?_
    conv => whnf
    rw [h36, nI_add]
    exact ⟨fun _ => hN e _ _ _, fun q => absurd (nI_le (by omega) (by omega)) q⟩
  | succ m ih =>
    intro j l5 hj hij e
    have jl : j < l.length := by omega
    have gj := (hw j jl).1
    have lj := wsN_l hW gj.1
    have t8 := tog_8 (zg l i) (zg l j)
    have e1 : cnJ l i (m + 1) j = if togN (zg l i) (zg l j) ≠ 8 then some j else if wsN (zg l j) &&& wsN (zg l i) ≠ 0 then none else cnJ l i m (j + 1) := rfl
    refine am_run hX 6 _ _ _ _ ?_
    conv => whnf
    rw [h36, nI_add]
    refine ⟨fun q => absurd q (nI_ge (by omega) (by omega)), fun _ => ?_⟩
    refine am_run hX 2 _ _ _ _ ?_
    conv => whnf
    refine ⟨fun q => absurd q (by decide), fun _ => ?_⟩
    refine am_run hX 4 _ _ _ _ ?_
    conv => whnf
    refine am_c1 (ct_togR (d := d) (by omega) (by omega) hW gi gj (hc i hi) (hc j jl)) ?_
    by_cases c : togN (zg l i) (zg l j) = 8
    · rw [c]
      refine am_run hX 4 _ _ _ _ ?_
      conv => whnf
      refine ⟨fun _ => ?_, fun q => absurd rfl q⟩
      refine am_run hX 8 _ _ _ _ ?_
      conv => whnf
      refine am_c1 (ct_wsA (d := d + 1) (by omega) hW gi.1 (hc i hi)) ?_
      conv => whnf
      refine am_c1 (ct_wsA (d := d + 1) (by omega) hW gj.1 (hc j jl)) ?_
      conv => whnf
      have hal : wsN (zg l i) &&& wsN (zg l j) < 256 := Nat.and_lt_two_pow (n := 8) _ lj
      rw [nI_and, show (0 : Int32) = nI 0 from rfl, nI_eq (by omega) (by decide), Nat.and_comm]
      refine ⟨fun q => ?_, fun q => ?_⟩
      · refine am_run hX 4 _ _ _ _ ?_
        conv => whnf
        rw [nI_1]
        have hno : cnJ l i (l.length - (i + 1)) (i + 1) = none := by
          rw [e, e1, if_neg (fun z => z c), if_pos q]
        refine am_run hX 6 _ _ _ _ ?_
        conv => whnf
        refine ⟨fun _ => hN hno _ _ _, fun _ => ?_⟩
        refine am_run hX 2 _ _ _ _ ?_
        conv => whnf
        exact ⟨fun _ => hN hno _ _ _, fun z => absurd rfl z⟩
      · refine am_run hX 5 _ _ _ _ ?_
        conv => whnf
        rw [nI_1]
        have key := ih (j + 1) (some (aI (trI 8))) (by omega) (by omega) (by rw [e, e1, if_neg (fun z => z c), if_neg q])
        exact key
    · by_cases c0 : togN (zg l i) (zg l j) = 0
      · have es : cnS l i j = (l.eraseIdx j).eraseIdx i := if_pos c0
        rw [c0]
        refine am_run hX 4 _ _ _ _ ?_
        conv => whnf
        refine ⟨fun q => absurd q (by decide), fun _ => ?_⟩
        refine am_run hX 3 _ _ _ _ ?_
        conv => whnf
        refine am_cq (ct_drop (d := d + 1) hn h0 jl) fun r1 N1 hq => ?_
        obtain ⟨rfl, f1, g1⟩ := hq
        refine ⟨none, rfl, ?_⟩
        refine am_run hX 2 _ _ _ _ ?_
        conv => whnf
        refine ⟨fun q => absurd rfl q, fun _ => ?_⟩
        refine am_run hX 6 _ _ _ _ ?_
        conv => whnf
        refine am_cq (ct_drop (d := d + 1) hn g1 (a := i) (by rw [List.length_eraseIdx, if_pos jl]; omega)) fun r2 N2 hq => ?_
        obtain ⟨rfl, f2, g2⟩ := hq
        refine ⟨none, rfl, ?_⟩
        conv => whnf
        refine ⟨rfl, hS j (by rw [e, e1, if_pos c]) N2 (lrF_t f1 f2) (by rw [es]; exact g2)⟩
      · have es := cnS_r hij jl c0
        obtain ⟨t1, t2, t3, t4⟩ := tog_k c c0
        have et : trI (togN (zg l i) (zg l j)) = nI (1 + keN (togN (zg l i) (zg l j))) := by
          unfold trI
          rw [if_neg c, if_neg c0]
        have k7 := ke_10 (togN (zg l i) (zg l j))
        rw [et]
        refine am_run hX 4 _ _ _ _ ?_
        conv => whnf
        refine ⟨fun q => absurd q (nI_nm (by omega)), fun _ => ?_⟩
        refine am_run hX 3 _ _ _ _ ?_
        conv => whnf
        refine am_cq (ct_drop (d := d + 1) hn h0 jl) fun r1 N1 hq => ?_
        obtain ⟨rfl, f1, g1⟩ := hq
        refine ⟨none, rfl, ?_⟩
        refine am_run hX 2 _ _ _ _ ?_
        conv => whnf
        rw [show (0 : Int32) = nI 0 from rfl, nI_eq (by omega) (by decide)]
        refine ⟨fun _ => ?_, fun q => absurd (by omega) q⟩
        refine am_run hX 9 _ _ _ _ ?_
        conv => whnf
        refine ⟨vp_in_nI (by show 300 * n + i < 6300; omega) (by decide), ?_⟩
        conv => whnf
        rw [nI_clamp (n := 300 * n + i) (by omega), show nI (1 + keN (togN (zg l i) (zg l j))) - 1 = nI (keN (togN (zg l i) (zg l j))) from by rw [show (1 : Int32) = nI 1 from rfl, nI_sub (by omega), Nat.add_sub_cancel_left]]
        refine ⟨rfl, hS j (by rw [e, e1, if_pos c]) _ (lrF_t f1 (lrF_i (k := 112) ⟨by decide, by decide⟩ (by omega))) ?_⟩
        rw [es]
        have el : (l.eraseIdx j).length = l.length - 1 := by rw [List.length_eraseIdx, if_pos jl]
        obtain ⟨u1, u2, u3, u4⟩ := g1
        refine ⟨by rw [List.length_set]; exact u1, u2, by rw [List.length_set]; exact u3, fun k hk => ?_⟩
        rw [List.length_set] at hk
        rw [zg_st _ _ (by omega)]
        obtain ⟨v1, v2, v3, v4⟩ := u4 k hk
        unfold rfO
        rw [mm_i1, mm_ne _ 112 113 _ (by decide), mm_ne _ 112 114 _ (by decide), mm_ne _ 112 115 _ (by decide)]
        by_cases q : k = i
        · rw [if_pos q]
          subst q
          have ez : zg (l.eraseIdx j) k = zg l k := by rw [zg_er, if_pos hij]
          rw [ez] at v2 v3 v4
          exact ⟨if_pos rfl, v2, v3, v4⟩
        · rw [if_neg q]
          exact ⟨(if_neg (by omega)).trans v1, v2, v3, v4⟩
set_option maxRecDepth 100000 in
theorem cnr_i {l : List bk_X} {P : am_Q} {X : am_X} (hX : am_K (d + 2) false nm_X12_cancelOnce P X) (hn : n < 20) (hW : W ≤ 8) (h : lrf M n l) (hw : allO W l) (hS : ∀ i j, cnI l l.length 0 = some (i, j) → ∀ N, lrF n M N → lrf N n (cnS l i j) → P (.inl (some (aI 1))) N) (hN : cnI l l.length 0 = none → P (.inl (some (aI 0))) M) : ∀ (m i : Nat) (l3 l4 l5 : Option am_V), i + m = l.length → cnI l l.length 0 = cnI l m i → X 11 [some (aR 108), some (aI (nI (300 * n))), some (aI (nI (300 * n + i))), l3, l4, l5] [] M := by
  have h0 := h
  obtain ⟨hl, h6, h36, hc⟩ := h
  intro m
  induction m with
  | zero =>
    intro i l3 l4 l5 hi e
    refine am_run hX 8 _ _ _ _ ?_
    conv => whnf
    rw [h36, nI_add]
    refine ⟨fun _ => ?_, fun q => absurd (nI_le (by omega) (by omega)) q⟩
    conv => whnf
    exact ⟨rfl, hN e⟩
  | succ m ih =>
    intro i l3 l4 l5 hi e
    have il : i < l.length := by omega
    have ex : cnI l (m + 1) i = match cnJ l i (l.length - (i + 1)) (i + 1) with
      | some j => some (i, j)
      | none => cnI l m (i + 1) := rfl
    refine am_run hX 6 _ _ _ _ ?_
    conv => whnf
    rw [h36, nI_add]
    refine ⟨fun q => absurd q (nI_ge (by omega) (by omega)), fun _ => ?_⟩
    refine am_run hX 6 _ _ _ _ ?_
    conv => whnf
    rw [nI_1]
    refine cnr_j (d := d) hX hn hW h0 hw il (fun j hj N f g => ?_) (fun hj v l4 l5 => ?_) (l.length - (i + 1)) (i + 1) _ (by omega) (by omega) rfl
    · refine hS i j ?_ N f g
      rw [e, ex, hj]
    · refine am_run hX 2 _ _ _ _ ?_
      conv => whnf
      rw [nI_1]
      refine ih (i + 1) _ _ _ (by omega) ?_
      rw [e, ex, hj]
set_option maxRecDepth 100000 in
theorem ct_canO {l : List bk_X} (hn : n < 20) (hW : W ≤ 8) (h : lrf M n l) (hw : allO W l) : am_M (d + 3) false nm_X12_cancelOnce [aR 108] M (fun r N => lrF n M N ∧ ((∃ k, cnO l = some k ∧ r = .inl (some (aI 1)) ∧ lrf N n k ∧ allO W k) ∨ (cnO l = none ∧ r = .inl (some (aI 0)) ∧ lrf N n l))) := by
  refine ⟨rfl, rfl, rfl, fun X hX => am_run hX 7 _ _ _ _ ?_⟩
  conv => whnf
  rw [h.2.1, show (300 : Int32) = nI 300 from rfl, nI_mul]
  refine cnr_i (d := d) hX hn hW h hw (fun i j e N f g => ⟨f, Or.inl ⟨cnS l i j, ?_, rfl, g, ?_⟩⟩) (fun e => ⟨lrF_r n M, Or.inr ⟨?_, rfl, h⟩⟩) l.length 0 _ _ _ (by omega) rfl
  · unfold cnO
    rw [e]
  · obtain ⟨a, b, c⟩ := cnI_s (by omega) e
    exact cnS_o hw a b c
  · unfold cnO
    rw [e]
set_option maxRecDepth 100000 in
theorem rcn_l {v1 : Int32} {P : am_Q} {X : am_X} (hX : am_K (d + 3) false nm_X12_cancel P X) (hn : n < 20) (hW : W ≤ 8) (L : List bk_X) (hK : ∀ N, lrF n M N → lrf N n L → allO W L → P (.inl none) N) : ∀ (m : Nat) (N : mm_M) (l : List bk_X), l.length ≤ m → lrF n M N → lrf N n l → allO W l → cnN m l = L → X 20 [some (aR 108), some (aI v1), some (aI 1)] [] N := by
  have key : ∀ (N : mm_M) (l : List bk_X), (∀ k, cnO l = some k → ∀ N', lrF n M N' → lrf N' n k → allO W k → X 20 [some (aR 108), some (aI v1), some (aI 1)] [] N') → (cnO l = none → l = L) → lrF n M N → lrf N n l → allO W l → X 20 [some (aR 108), some (aI v1), some (aI 1)] [] N := by
    intro N l hs hno hF hd ho
    refine am_run hX 2 _ _ _ _ ?_
    conv => whnf
    refine ⟨fun q => absurd q (by decide), fun _ => ?_⟩
    refine am_run hX 2 _ _ _ _ ?_
    conv => whnf
    refine am_cq (ct_canO (d := d) hn hW hd ho) fun r1 N1 hq => ?_
    obtain ⟨f1, ⟨k, e, rfl, g1, o1⟩ | ⟨e, rfl, g1⟩⟩ := hq
    · refine ⟨_, rfl, ?_⟩
      refine am_run hX 2 _ _ _ _ ?_
      conv => whnf
      exact hs k e N1 (lrF_t hF f1) g1 o1
    · refine ⟨_, rfl, ?_⟩
      refine am_run hX 5 _ _ _ _ ?_
      conv => whnf
      refine ⟨fun _ => ?_, fun q => absurd rfl q⟩
      conv => whnf
      have el := hno e
      subst el
      exact ⟨trivial, hK N1 (lrF_t hF f1) g1 ho⟩
  intro m
  induction m with
  | zero =>
    intro N l hl hF hd ho e
    have hl0 : l = [] := List.length_eq_zero_iff.mp (by omega)
    subst hl0
    exact key N [] (fun k hk => by cases hk) (fun _ => e) hF hd ho
  | succ m ih =>
    intro N l hl hF hd ho e
    have ec : cnN (m + 1) l = match cnO l with
      | some k => cnN m k
      | none => l := rfl
    refine key N l (fun k hk N' f g o => ?_) (fun hk => ?_) hF hd ho
    · have hkl := cnO_l hk
      refine ih N' k (by omega) f g o ?_
      rw [← e, ec, hk]
    · rw [← e, ec, hk]
end CNR
