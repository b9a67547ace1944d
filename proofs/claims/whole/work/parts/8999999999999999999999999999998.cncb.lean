/-! derive, CANCELLED: the class -/
theorem tog_8 (x y : bk_X) : togN x y ≤ 8 := by
  by_cases c : togN x y = 8
  · omega
  · by_cases c0 : togN x y = 0
    · omega
    · have := (tog_k c c0).1
      omega
section CNB
variable {d : Nat} {M : mm_M} {W : Nat} {l : List bk_X}
set_option maxRecDepth 100000 in
theorem cf_j {i : Nat} {P : am_Q} {X : am_X} (hX : am_K (d + 3) false nm_X0_cancelFirst P X) (hW : W ≤ 8) (h : drf M l) (hw : allO W l) (hi : i < l.length) (hS : ∀ j, cnJ l i (l.length - (i + 1)) (i + 1) = some j → ∀ N, dfF M N → drf N (cnS l i j) → P (.inl (some (aI 1))) N) (hN : cnJ l i (l.length - (i + 1)) (i + 1) = none → ∀ l3 l4, X 87 [some (aR 9), some (aI (nI i)), some (aI (nI (wsN (zg l i)))), l3, l4] [] M) : ∀ (m j : Nat) (l4 : Option am_V), j + m = l.length → i < j → cnJ l i (l.length - (i + 1)) (i + 1) = cnJ l i m j → X 24 [some (aR 9), some (aI (nI i)), some (aI (nI (wsN (zg l i)))), some (aI (nI j)), l4] [] M := by
  have h0 := h
  obtain ⟨hl, h8, hc⟩ := h
  have oi := (hw i hi).1.1
  have li := wsN_l hW oi
  have hIi : vp_in (nI i) 300 := vp_in_nI (by omega) (by decide)
  intro m
  induction m with
  | zero =>
    intro j l4 hj hij e
    refine am_run hX 4 _ _ _ _ ?_
    conv => whnf
    rw [h8]
    exact ⟨fun _ => hN e _ _, fun q => absurd (nI_le (by omega) (by omega)) q⟩
  | succ m ih =>
    intro j l4 hj hij e
    have jl : j < l.length := by omega
    have oj := (hw j jl).1.1
    have lj := wsN_l hW oj
    have hIj : vp_in (nI j) 300 := vp_in_nI (by omega) (by decide)
    have t8 := tog_8 (zg l i) (zg l j)
    refine am_run hX 4 _ _ _ _ ?_
    conv => whnf
    rw [h8]
    refine ⟨fun q => absurd q (nI_ge (by omega) (by omega)), fun _ => ?_⟩
    refine am_run hX 9 _ _ _ _ ?_
    conv => whnf
    refine ⟨hIi, ?_⟩
    conv => whnf
    refine ⟨hIj, ?_⟩
    conv => whnf
    rw [nI_clamp (n := i) (by omega), nI_clamp (n := j) (by omega), hc i hi, hc j jl]
    refine am_c1 (ct_togC (d := d) hW oi oj) ?_
    by_cases c : togN (zg l i) (zg l j) = 8
    · rw [c]
      refine am_run hX 3 _ _ _ _ ?_
      conv => whnf
      refine ⟨fun _ => ?_, fun q => absurd (by decide) q⟩
      refine am_run hX 5 _ _ _ _ ?_
      conv => whnf
      refine ⟨hIj, ?_⟩
      conv => whnf
      rw [nI_clamp (n := j) (by omega), hc j jl]
      refine am_c1 (ct_wsO (d := d + 1) hW oj) ?_
      refine am_run hX 3 _ _ _ _ ?_
      conv => whnf
      have hal : wsN (zg l j) &&& wsN (zg l i) < 256 := Nat.and_lt_two_pow (n := 8) _ li
      rw [nI_and, show (0 : Int32) = nI 0 from rfl, nI_eq (by omega) (by decide)]
      refine ⟨fun q => ?_, fun q => ?_⟩
      · refine am_run hX 2 _ _ _ _ ?_
        conv => whnf
        rw [nI_1]
        refine ih (j + 1) _ (by omega) (by omega) (e.trans ?_)
        show (if togN (zg l i) (zg l j) ≠ 8 then some j else if wsN (zg l j) &&& wsN (zg l i) ≠ 0 then none else cnJ l i m (j + 1)) = _
        rw [if_neg (fun z => z c), if_neg (fun z => z q)]
      · refine am_run hX 1 _ _ _ _ ?_
        conv => whnf
        refine hN (e.trans ?_) _ _
        show (if togN (zg l i) (zg l j) ≠ 8 then some j else if wsN (zg l j) &&& wsN (zg l i) ≠ 0 then none else cnJ l i m (j + 1)) = _
        rw [if_neg (fun z => z c), if_pos q]
    · have et : tgI (togN (zg l i) (zg l j)) = nI (togN (zg l i) (zg l j)) := if_neg c
      rw [et]
      refine am_run hX 3 _ _ _ _ ?_
      conv => whnf
      refine ⟨fun q => absurd q (nI_nlt (a := togN (zg l i) (zg l j)) (b := 0) (by omega) (by omega)), fun _ => ?_⟩
      refine am_run hX 7 _ _ _ _ ?_
      conv => whnf
      refine am_cq (ct_becO (d := d + 1) hW h0 hw hij jl c) fun r1 N1 hq => ?_
      obtain ⟨rfl, f1, g1⟩ := hq
      refine ⟨none, rfl, ?_⟩
      conv => whnf
      refine ⟨rfl, hS j (e.trans ?_) N1 f1 g1⟩
      show (if togN (zg l i) (zg l j) ≠ 8 then some j else if wsN (zg l j) &&& wsN (zg l i) ≠ 0 then none else cnJ l i m (j + 1)) = _
      rw [if_pos c]
set_option maxRecDepth 100000 in
theorem cf_i {P : am_Q} {X : am_X} (hX : am_K (d + 3) false nm_X0_cancelFirst P X) (hW : W ≤ 8) (h : drf M l) (hw : allO W l) (hS : ∀ i j, cnI l l.length 0 = some (i, j) → ∀ N, dfF M N → drf N (cnS l i j) → P (.inl (some (aI 1))) N) (hN : cnI l l.length 0 = none → P (.inl (some (aI 0))) M) : ∀ (m i : Nat) (l2 l3 l4 : Option am_V), i + m = l.length → cnI l l.length 0 = cnI l m i → X 2 [some (aR 9), some (aI (nI i)), l2, l3, l4] [] M := by
  have h0 := h
  obtain ⟨hl, h8, hc⟩ := h
  intro m
  induction m with
  | zero =>
    intro i l2 l3 l4 hi e
    refine am_run hX 6 _ _ _ _ ?_
    conv => whnf
    rw [h8]
    refine ⟨fun _ => ?_, fun q => absurd (nI_le (by omega) (by omega)) q⟩
    conv => whnf
    exact ⟨rfl, hN e⟩
  | succ m ih =>
    intro i l2 l3 l4 hi e
    have il : i < l.length := by omega
    have oi := (hw i il).1.1
    have ex : cnI l (m + 1) i = match cnJ l i (l.length - (i + 1)) (i + 1) with
      | some j => some (i, j)
      | none => cnI l m (i + 1) := rfl
    refine am_run hX 4 _ _ _ _ ?_
    conv => whnf
    rw [h8]
    refine ⟨fun q => absurd q (nI_ge (by omega) (by omega)), fun _ => ?_⟩
    refine am_run hX 10 _ _ _ _ ?_
    conv => whnf
    refine ⟨vp_in_nI (by show i < 300; omega) (by decide), ?_⟩
    conv => whnf
    rw [nI_clamp (n := i) (by omega), hc i il]
    refine am_c1 (ct_wsO (d := d + 1) hW oi) ?_
    conv => whnf
    rw [nI_1]
    refine cf_j (d := d) hX hW h0 hw il (fun j hj N f g => ?_) (fun hj l3 l4 => ?_) (l.length - (i + 1)) (i + 1) _ (by omega) (by omega) rfl
    · refine hS i j ?_ N f g
      rw [e, ex, hj]
    · refine am_run hX 2 _ _ _ _ ?_
      conv => whnf
      rw [nI_1]
      refine ih (i + 1) _ _ _ (by omega) ?_
      rw [e, ex, hj]
set_option maxRecDepth 100000 in
theorem ct_canF (hW : W ≤ 8) (h : drf M l) (hw : allO W l) : am_M (d + 4) false nm_X0_cancelFirst [aR 9] M (fun r N => dfF M N ∧ ((∃ k, cnO l = some k ∧ r = .inl (some (aI 1)) ∧ drf N k ∧ allO W k) ∨ (cnO l = none ∧ r = .inl (some (aI 0)) ∧ drf N l))) := by
  refine ⟨rfl, rfl, rfl, fun X hX => am_run hX 2 _ _ _ _ ?_⟩
  conv => whnf
  refine cf_i (d := d) hX hW h hw (fun i j e N f g => ⟨f, Or.inl ⟨cnS l i j, ?_, rfl, g, ?_⟩⟩) (fun e => ⟨dfF_r M, Or.inr ⟨?_, rfl, h⟩⟩) l.length 0 _ _ _ (by omega) rfl
  · unfold cnO
    rw [e]
  · obtain ⟨a, b, c⟩ := cnI_s (by omega) e
    exact cnS_o hw a b c
  · unfold cnO
    rw [e]
set_option maxRecDepth 100000 in
theorem pcn_l {c : Nat} {P : am_Q} {X : am_X} (hX : am_K (d + 4) false nm_X0_putCancelled P X) (hW : W ≤ 8) (L : List bk_X) (hK : ∀ N, dfF M N → drf N L → allO W L → P (.inl none) N) : ∀ (m p : Nat) (N : mm_M) (l : List bk_X), p + m ≤ 300 → l.length ≤ m → dfF M N → drf N l → allO W l → cnN m l = L → X 8 [some (aR 9), some (aI (nI c)), some (aI (nI p))] [] N := by
  have key : ∀ (m p : Nat) (N : mm_M) (l : List bk_X), (∀ k, cnO l = some k → ∀ N', dfF M N' → drf N' k → allO W k → X 22 [some (aR 9), some (aI (nI c)), some (aI (nI p))] [] N') → (cnO l = none → l = L) → p ≤ 300 → dfF M N → drf N l → allO W l → X 8 [some (aR 9), some (aI (nI c)), some (aI (nI p))] [] N := by
    intro m p N l hs hn hp hF hd ho
    refine am_run hX 3 _ _ _ _ ?_
    conv => whnf
    refine ⟨fun q => absurd q (nI_nlt (a := 300) (b := p) (by omega) (by omega)), fun _ => ?_⟩
    refine am_run hX 2 _ _ _ _ ?_
    conv => whnf
    refine am_cq (ct_canF (d := d) hW hd ho) fun r1 N1 hq => ?_
    obtain ⟨f1, ⟨k, e, rfl, g1, o1⟩ | ⟨e, rfl, g1⟩⟩ := hq
    · refine ⟨_, rfl, ?_⟩
      refine am_run hX 1 _ _ _ _ ?_
      conv => whnf
      refine ⟨fun q => absurd q (by decide), fun _ => ?_⟩
      exact hs k e N1 (dfF_t hF f1) g1 o1
    · refine ⟨_, rfl, ?_⟩
      refine am_run hX 2 _ _ _ _ ?_
      conv => whnf
      refine ⟨fun _ => ?_, fun q => absurd rfl q⟩
      conv => whnf
      have el := hn e
      subst el
      exact ⟨trivial, hK N1 (dfF_t hF f1) g1 ho⟩
  intro m
  induction m with
  | zero =>
    intro p N l hp hl hF hd ho e
    have hl0 : l = [] := List.length_eq_zero_iff.mp (by omega)
    subst hl0
    exact key 0 p N [] (fun k hk => by cases hk) (fun _ => e) (by omega) hF hd ho
  | succ m ih =>
    intro p N l hp hl hF hd ho e
    have ec : cnN (m + 1) l = match cnO l with
      | some k => cnN m k
      | none => l := rfl
    refine key m p N l (fun k hk N' f g o => ?_) (fun hk => ?_) (by omega) hF hd ho
    · have hkl := cnO_l hk
      refine am_run hX 2 _ _ _ _ ?_
      conv => whnf
      rw [nI_1]
      refine ih (p + 1) N' k (by omega) (by omega) f g o ?_
      rw [← e, ec, hk]
    · rw [← e, ec, hk]
end CNB
