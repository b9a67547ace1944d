/-! SHORTEST: the reference lays the least word -/
theorem nI_n0 {n : Nat} (h : n < 2 ^ 31) : ¬ nI n < 0 := nI_nlt (b := 0) (Nat.zero_le _) h
theorem dr_s {r : List Nat} {c : Nat} (h : c < r.length) : (r.drop c).reverse.map stX = (r.drop (c + 1)).reverse.map stX ++ [stX (r.getD c 0)] := by
  rw [List.drop_eq_getElem_cons h, List.reverse_cons, List.map_append, List.getD_eq_getElem?_getD, List.getElem?_eq_getElem h]
  rfl
theorem gd_5 {r : List Nat} (h : al5 r) (c : Nat) : r.getD c 0 < 5 := by
  rw [List.getD_eq_getElem?_getD]
  by_cases q : c < r.length
  · rw [List.getElem?_eq_getElem q]
    exact h _ (List.getElem_mem q)
  · rw [List.getElem?_eq_none (by omega)]
    decide
theorem stX_g {y : Nat} (h : y ≠ 4) : nI (stX y).2.2.2.1 = 0 := by
  unfold stX
  show nI (if y = 4 then 1 else 0) = 0
  rw [if_neg h]
  rfl
theorem stX_16 (y : Nat) : (stX y).1 < 16 := by
  unfold stX
  show (if y < 2 then 3 else if y < 4 then 4 else 2) < 16
  split
  · decide
  · split <;> decide
section SHN
variable {d : Nat} {N : mm_M} {b : Nat} {r : List Nat}
set_option maxRecDepth 100000 in
theorem lt_2 {P : am_Q} {X : am_X} {v1 : Int32} (hX : am_K (d + 1) false nm_X12_layTwo P X) (h6 : N.1 108 6 = nI b) (hb : b < 20) (hp : pth N r) (h5 : al5 r) (hr : r.length ≤ 14) (hP : P (.inl none) (llM N b (r.reverse.map stX))) : ∀ c, c ≤ r.length → X 37 [some (aR 108), some (aI v1), some (aI (nI r.length)), some (aI (nI c + -1))] [] (llM N b ((r.drop c).reverse.map stX)) := by
  intro c
  induction c with
  | zero =>
    intro _
    refine am_run hX 2 _ _ _ _ ?_
    conv => whnf
    refine ⟨fun _ => ?_, fun z => absurd (by decide) z⟩
    refine am_run hX 1 _ _ _ _ ?_
    conv => whnf
    exact ⟨trivial, hP⟩
  | succ c ih =>
    intro hc
    have hc' : c < r.length := hc
    have e0 := hp c hc'
    have y5 := gd_5 h5 c
    have ih := ih (by omega)
    rw [dr_s hc'] at ih
    generalize hl : (r.drop (c + 1)).reverse.map stX = l at ih ⊢
    generalize hy : r.getD c 0 = y at e0 y5 ih
    have e1 : (llM N b l).1 140 c = nI y := by rw [ll_r _ _ _ (by decide) (by decide)]; exact e0
    have key := ct_layL (d := d) (M := N) (n := b) (l := l) (x := stX y) h6 hb (stX_16 y)
    rw [nI_d1]
    refine am_run hX 2 _ _ _ _ ?_
    conv => whnf
    refine ⟨fun z => absurd z (nI_n0 (by omega)), fun _ => ?_⟩
    refine am_run hX 6 _ _ _ _ ?_
    conv => whnf
    refine ⟨vp_in_nI (by show c < 64; omega) (by decide), ?_⟩
    conv => whnf
    rw [nI_clamp (n := c) (by omega), e1]
    refine am_c1 (ct_kSt (d := d) y5) ?_
    refine am_run hX 5 _ _ _ _ ?_
    conv => whnf
    refine ⟨vp_in_nI (by show c < 64; omega) (by decide), ?_⟩
    conv => whnf
    rw [nI_clamp (n := c) (by omega), e1]
    refine am_c1 (ct_wSt (d := d) y5) ?_
    refine am_run hX 7 _ _ _ _ ?_
    conv => whnf
    refine ⟨vp_in_nI (by show c < 64; omega) (by decide), ?_⟩
    conv => whnf
    rw [nI_clamp (n := c) (by omega), e1]
    refine ⟨fun z => ?_, fun z => ?_⟩
    · have g4 : y ≠ 4 := fun e => z (by rw [e]; rfl)
      rw [stX_g g4] at key
      refine am_run hX 4 _ _ _ _ ?_
      conv => whnf
      refine am_c0 key ?_
      refine am_run hX 2 _ _ _ _ ?_
      conv => whnf
      exact ih
    · have g4 : y = 4 := (nI_eq (a := y) (b := 4) (by omega) (by decide)).mp (Decidable.byContradiction z)
      subst g4
      refine am_run hX 5 _ _ _ _ ?_
      conv => whnf
      refine am_c0 key ?_
      refine am_run hX 2 _ _ _ _ ?_
      conv => whnf
      exact ih
end SHN
section SHN2
variable {d : Nat} {M : mm_M} {n b : Nat} {T : Nat → K4} {fr yb B : Nat → Nat} {i : Nat}
theorem ltF_r (M : mm_M) : ltF M M := ⟨fun _ _ => rfl, rfl⟩
set_option maxRecDepth 100000 in
theorem ct_layTwo (hI : fwI M n T fr yb B n 0) (hi : i < n) (h6 : M.1 108 6 = nI b) (hb : b < 20) (hL : llw M b []) (h5 : al5 (wdB fr yb i i)) (h14 : (wdB fr yb i i).length ≤ 14) : am_M (d + 2) false nm_X12_layTwo [aR 108, aI (nI i)] M (fun r N => r = .inl none ∧ ∃ K, ltF M K ∧ N = llM K b ((wdB fr yb i i).map stX)) := by
  refine ⟨rfl, rfl, rfl, fun X hX => am_run hX 4 _ _ _ _ ?_⟩
  conv => whnf
  refine lt_1 (d := d) (M := M) (W := wdB fr yb i i) hX hI h14 (fun K r hF hp e => ?_) i i [] M (Nat.le_refl _) hi (ltF_r M) (fun j hj => absurd hj (Nat.not_lt_zero _)) (List.append_nil _)
  have hr5 : al5 r := fun g hg => h5 g (by rw [← e]; exact List.mem_reverse.mpr hg)
  have hr14 : r.length ≤ 14 := by rw [← e, List.length_reverse] at h14; exact h14
  have hLK : llw K b [] := llw_f hL (hF.1 108 (by decide)) (fun k a c => hF.1 k (by omega))
  have key := lt_2 (d := d) (N := K) (b := b) (r := r) (v1 := nI i) hX (by rw [hF.1 108 (by decide)]; exact h6) hb hp hr5 hr14 ⟨rfl, K, hF, by rw [e]⟩ r.length (Nat.le_refl _)
  rw [List.drop_length] at key
  rw [show llM K b (([] : List Nat).reverse.map stX) = K from llw_d hLK] at key
  refine am_run hX 4 _ _ _ _ ?_
  conv => whnf
  rw [nI_s1']
  exact key
end SHN2
