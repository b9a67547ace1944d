/-! FORM: the class's letters -/
def lcL (N : mm_M) (L : List Nat) : Prop := N.1 57 14 = nI L.length ∧ ∀ j, j < L.length → N.1 67 j = nI (L.getD j 0)
def alF (M N : mm_M) : Prop := (∀ k, k ≠ 57 → k ≠ 65 → k ≠ 67 → N.1 k = M.1 k) ∧ (∀ y, y ≠ 14 → N.1 57 y = M.1 57 y) ∧ N.2 = M.2
theorem alF_r (M : mm_M) : alF M M := ⟨fun _ _ _ _ => rfl, fun _ _ => rfl, rfl⟩
theorem alF_t {M N K : mm_M} (h : alF M N) (g : alF N K) : alF M K := ⟨fun k a b c => (g.1 k a b c).trans (h.1 k a b c), fun y a => (g.2.1 y a).trans (h.2.1 y a), g.2.2.trans h.2.2⟩
theorem kyG_i : ∀ i, i < 24 → ∀ q, q < 24 → kyG q = kyG i → q = i := by decide
theorem kyN_i : ∀ i, i < 24 → kyN (kyP i) = i ∧ knm (kyP i) = kyG i := by decide
theorem fr_f : ∀ q, q < 24 → (nI (frL q) &&& 1 = nI (frL q % 2)) ∧ (nI (frL q) >>> ((1 : Int32) &&& 31) = nI (frL q / 2)) := by decide +kernel
theorem frg_1 : ∀ q, q < 24 → 0 < q → kw q = kw (frL q / 2) ++ [if frL q % 2 = 0 then 3 else 4] ∧ frL q / 2 < q := by decide
def bt3 (b : Nat) : Nat := if b = 0 then 3 else 4
section FMS
variable {d : Nat} {M : mm_M}
set_option maxRecDepth 100000 in
theorem ct_add0 {v : Int32} : am_M (d + 1) false nm_X2_addLetter [aR 57, aI 0, aI v] M (am_q0 M) := by
  refine ⟨rfl, rfl, rfl, fun X hX => am_run hX 2 _ _ _ _ ?_⟩
  conv => whnf
  refine ⟨fun _ => ?_, fun z => absurd rfl z⟩
  refine am_run hX 1 _ _ _ _ ?_
  conv => whnf
  exact ⟨trivial, rfl, rfl⟩
set_option maxRecDepth 100000 in
theorem ct_add1 {v : Int32} {c : Nat} {L : List Nat} (hv : vp_nar .char v = nI c) (hL : L.length < 932) (h : lcL M L) : am_M (d + 1) false nm_X2_addLetter [aR 57, aI 1, aI v] M (fun r N => r = .inl none ∧ alF M N ∧ lcL N (L ++ [c]) ∧ N.1 65 = M.1 65) := by
  refine ⟨rfl, rfl, rfl, fun X hX => am_run hX 2 _ _ _ _ ?_⟩
  conv => whnf
  refine ⟨fun z => absurd z (by decide), fun _ => ?_⟩
  refine am_run hX 6 _ _ _ _ ?_
  conv => whnf
  rw [h.1]
  refine ⟨fun z => absurd z (nI_ge (a := L.length) (b := 932) hL (by decide)), fun _ => ?_⟩
  refine am_run hX 6 _ _ _ _ ?_
  conv => whnf
  rw [h.1]
  refine ⟨vp_in_nI (by show L.length < 932; omega) (by decide), ?_⟩
  rw [nI_clamp (n := L.length) (by omega), hv]
  generalize hN1 : mm_i M 67 _ = N1
  have a1 : ∀ k, k ≠ 67 → N1.1 k = M.1 k := fun k hk => by rw [← hN1, mm_ne _ _ _ _ hk]
  have a2 : N1.1 67 = upd (M.1 67) L.length (nI c) := by rw [← hN1, mm_i1]
  have a3 : N1.2 = M.2 := by rw [← hN1]; rfl
  refine am_run hX 6 _ _ _ _ ?_
  conv => whnf
  rw [a1 57 (by decide), h.1, nI_1]
  generalize hN2 : mm_i N1 57 _ = N2
  have b1 : ∀ k, k ≠ 57 → N2.1 k = N1.1 k := fun k hk => by rw [← hN2, mm_ne _ _ _ _ hk]
  have b2 : N2.1 57 = upd (M.1 57) 14 (nI (L.length + 1)) := by rw [← hN2, mm_i1]
  have b3 : N2.2 = N1.2 := by rw [← hN2]; rfl
  refine am_run hX 1 _ _ _ _ ?_
  conv => whnf
  refine ⟨trivial, rfl, ⟨fun k a _ c => by rw [b1 k a, a1 k c], fun y a => by rw [b2, up_ne a], by rw [b3, a3]⟩, ⟨?_, ?_⟩, by rw [b1 65 (by decide), a1 65 (by decide)]⟩
  · rw [b2, up_at, List.length_append]
    rfl
  · rw [b1 67 (by decide), a2]
    exact gd_u h.2 rfl rfl
set_option maxRecDepth 100000 in
theorem aw_s {P : am_Q} {X : am_X} {i : Nat} (hX : am_K (d + 1) false nm_X2_addWord P X) (hi : i < 24) (hI : imS M (kyP i)) (hT : wtN M 24) (hE : X 38 [some (aR 57), some (aI (nI i)), none, none] [] M) : ∀ (m q : Nat), q + m = i → X 2 [some (aR 57), some (aI (nI q)), none, none] [] M := by
  have e24 : nI 24 - 1 = nI 23 := by decide
  intro m
  induction m with
  | zero =>
    intro q hq
    obtain rfl : q = i := by omega
    refine am_run hX 6 _ _ _ _ ?_
    conv => whnf
    rw [hT.1, e24]
    refine ⟨fun _ => hE, fun _ => ?_⟩
    refine am_run hX 12 _ _ _ _ ?_
    conv => whnf
    refine ⟨vp_in_nI (by show q < 24; omega) (by decide), ?_⟩
    conv => whnf
    rw [nI_clamp (n := q) (by omega), (hT.2 q hi).1, hI.1, hI.2.1, kn_e _ hI.2.2.1 _ hI.2.2.2, show (kyP q).1 + 8 * (kyP q).2 = kyG q from (kyN_i q hi).2]
    exact ⟨fun _ => hE, fun z => absurd rfl z⟩
  | succ m ih =>
    intro q hq
    have kb := ky_b q (by omega)
    have kb' := ky_b i hi
    refine am_run hX 6 _ _ _ _ ?_
    conv => whnf
    rw [hT.1, e24]
    refine ⟨fun z => absurd z (nI_ge (a := q) (b := 23) (by omega) (by decide)), fun _ => ?_⟩
    refine am_run hX 12 _ _ _ _ ?_
    conv => whnf
    refine ⟨vp_in_nI (by show q < 24; omega) (by decide), ?_⟩
    conv => whnf
    rw [nI_clamp (n := q) (by omega), (hT.2 q (by omega)).1, hI.1, hI.2.1, kn_e _ hI.2.2.1 _ hI.2.2.2, show (kyP i).1 + 8 * (kyP i).2 = kyG i from (kyN_i i hi).2, nI_eq (by omega) (by omega)]
    refine ⟨fun z => absurd (kyG_i i hi q (by omega) z) (by omega), fun _ => ?_⟩
    refine am_run hX 2 _ _ _ _ ?_
    conv => whnf
    rw [nI_1]
    exact ih (q + 1) (by omega)
set_option maxRecDepth 100000 in
theorem aw_p {P : am_Q} {X : am_X} {i : Nat} (hX : am_K (d + 1) false nm_X2_addWord P X) (hi : i < 24) (hT : wtN M 24) (hE : ∀ f (r : List Nat), r.length ≤ 6 → (∀ j, j < r.length → f j = nI (r.getD j 0)) → (∀ b ∈ r, b < 2) → r.reverse.map bt3 = kw i → X 82 [some (aR 57), some (aI (nI 0)), some (aI (nI r.length)), none] [] (mm_i M 65 f)) : ∀ (m q : Nat) (f : Nat → Int32) (r : List Nat), q ≤ m → q < 24 → kw q ++ r.reverse.map bt3 = kw i → (∀ j, j < r.length → f j = nI (r.getD j 0)) → (∀ b ∈ r, b < 2) → X 40 [some (aR 57), some (aI (nI q)), some (aI (nI r.length)), none] [] (mm_i M 65 f) := by
  have k6 := (kw_f i hi).1
  have h0 : ∀ (f : Nat → Int32) (r : List Nat), kw 0 ++ r.reverse.map bt3 = kw i → (∀ j, j < r.length → f j = nI (r.getD j 0)) → (∀ b ∈ r, b < 2) → X 40 [some (aR 57), some (aI (nI 0)), some (aI (nI r.length)), none] [] (mm_i M 65 f) := by
    intro f r hk hf hb
    have hk : r.reverse.map bt3 = kw i := hk
    refine am_run hX 2 _ _ _ _ ?_
    conv => whnf
    refine ⟨fun _ => hE f r ?_ hf hb hk, fun z => absurd (by decide) z⟩
    have := congrArg List.length hk
    rw [List.length_map, List.length_reverse] at this
    omega
  intro m
  induction m with
  | zero =>
    intro q f r hq _ hk hf hb
    obtain rfl : q = 0 := by omega
    exact h0 f r hk hf hb
  | succ m ih =>
    intro q f r hq q24 hk hf hb
    by_cases q0 : q = 0
    · subst q0
      exact h0 f r hk hf hb
    · obtain ⟨g1, g2⟩ := frg_1 q q24 (by omega)
      obtain ⟨u1, u2⟩ := fr_f q q24
      have rl : r.length < 6 := by
        have := congrArg List.length hk
        rw [List.length_append, List.length_map, List.length_reverse, g1, List.length_append] at this
        have e1 : [if frL q % 2 = 0 then 3 else 4].length = 1 := rfl
        omega
      have t69 : ∀ F, (mm_i M 65 F).1 69 q = nI (frL q) := fun F => by rw [mm_ne _ _ _ _ (by decide)]; exact (hT.2 q q24).2 (by omega)
      refine am_run hX 2 _ _ _ _ ?_
      conv => whnf
      refine ⟨fun z => absurd z (nI_ge (a := 0) (b := q) (by omega) (by omega)), fun _ => ?_⟩
      refine am_run hX 5 _ _ _ _ ?_
      conv => whnf
      refine ⟨fun z => absurd z (nI_ge (a := r.length) (b := 64) (by omega) (by decide)), fun _ => ?_⟩
      refine am_run hX 10 _ _ _ _ ?_
      conv => whnf
      refine ⟨vp_in_nI (by show q < 24; omega) (by decide), ?_⟩
      conv => whnf
      refine ⟨vp_in_nI (by show r.length < 64; omega) (by decide), ?_⟩
      rw [nI_clamp (n := q) (by omega), nI_clamp (n := r.length) (by omega), t69, u1, mm_i1, mm_ii]
      refine am_run hX 7 _ _ _ _ ?_
      conv => whnf
      refine ⟨vp_in_nI (by show q < 24; omega) (by decide), ?_⟩
      conv => whnf
      rw [nI_clamp (n := q) (by omega), t69, u2]
      refine am_run hX 2 _ _ _ _ ?_
      conv => whnf
      rw [nI_1]
      have key := ih (frL q / 2) (upd f r.length (nI (frL q % 2))) (r ++ [frL q % 2]) (by omega) (by omega) (by
        rw [List.reverse_append]
        show kw (frL q / 2) ++ (bt3 (frL q % 2) :: r.reverse.map bt3) = kw i
        rw [← hk, g1, List.append_assoc]
        rfl) (gd_u hf rfl rfl) (fun b hb' => by
        rcases List.mem_append.mp hb' with z | z
        · exact hb b z
        · rw [List.mem_singleton.mp z]
          omega)
      rw [List.length_append] at key
      exact key
set_option maxRecDepth 100000 in
theorem aw_w {P : am_Q} {X : am_X} {L r : List Nat} {v1 v2 : Int32} (hX : am_K (d + 1) false nm_X2_addWord P X) (hr : r.length ≤ 6) (hb : ∀ b ∈ r, b < 2) (hL : L.length ≤ 900) (h65 : ∀ j, j < r.length → M.1 65 j = nI (r.getD j 0)) (hP : ∀ N, alF M N → lcL N (L ++ (r.reverse.map bt3).map chr3) → P (.inl none) N) : ∀ (j : Nat) (N : mm_M), j ≤ r.length → alF M N → N.1 65 = M.1 65 → lcL N (L ++ ((r.drop j).reverse.map bt3).map chr3) → X 86 [some (aR 57), some (aI v1), some (aI v2), some (aI (nI j + -1))] [] N := by
  intro j
  induction j with
  | zero =>
    intro N hj hF _ hl
    refine am_run hX 2 _ _ _ _ ?_
    conv => whnf
    refine ⟨fun _ => ?_, fun z => absurd (by decide) z⟩
    refine am_run hX 1 _ _ _ _ ?_
    conv => whnf
    exact ⟨trivial, hP N hF hl⟩
  | succ j ih =>
    intro N hj hF e65 hl
    have jl : j < r.length := hj
    have hbj : r.getD j 0 < 2 := by
      rw [List.getD_eq_getElem?_getD, List.getElem?_eq_getElem jl]
      exact hb _ (List.getElem_mem jl)
    have ll : (L ++ ((r.drop (j + 1)).reverse.map bt3).map chr3).length < 932 := by
      rw [List.length_append, List.length_map, List.length_map, List.length_reverse, List.length_drop]
      omega
    have go : ∀ (v : Int32), vp_nar .char v = nI (chr3 (bt3 (r.getD j 0))) → X 108 [some (aR 57), some (aI v1), some (aI v2), some (aI (nI j))] [aI v, aI 1, aR 57] N := by
      intro v hv
      refine am_run hX 1 _ _ _ _ ?_
      conv => whnf
      refine am_cq (ct_add1 (d := d) (M := N) hv ll hl) ?_
      rintro r1 N1 ⟨rfl, f1, l1, e1⟩
      refine ⟨none, rfl, ?_⟩
      refine am_run hX 2 _ _ _ _ ?_
      conv => whnf
      refine ih N1 (by omega) (alF_t hF f1) (e1.trans e65) ?_
      have : L ++ ((r.drop j).reverse.map bt3).map chr3 = L ++ ((r.drop (j + 1)).reverse.map bt3).map chr3 ++ [chr3 (bt3 (r.getD j 0))] := by
        rw [drp_c jl, List.reverse_cons, List.map_append, List.map_append, List.append_assoc]
        rfl
      rw [this]
      exact l1
    rw [nI_d1]
    refine am_run hX 2 _ _ _ _ ?_
    conv => whnf
    refine ⟨fun z => absurd z (nI_n0 (by omega)), fun _ => ?_⟩
    refine am_run hX 7 _ _ _ _ ?_
    conv => whnf
    refine ⟨vp_in_nI (by show j < 64; omega) (by decide), ?_⟩
    conv => whnf
    rw [nI_clamp (n := j) (by omega), e65, h65 j jl]
    have : r.getD j 0 = 0 ∨ r.getD j 0 = 1 := by omega
    rcases this with e | e
    · rw [e]
      refine ⟨fun z => absurd rfl z, fun _ => ?_⟩
      refine am_run hX 2 _ _ _ _ ?_
      conv => whnf
      exact go _ (by rw [e]; rfl)
    · rw [e]
      refine ⟨fun _ => ?_, fun z => absurd (by decide) z⟩
      refine am_run hX 1 _ _ _ _ ?_
      conv => whnf
      exact go _ (by rw [e]; rfl)
set_option maxRecDepth 100000 in
theorem ct_addW {L : List Nat} {k : Nat × Nat} (hk : gdK k) (hI : imS M k) (hT : wtN M 24) (hL : L.length ≤ 900) (hl : lcL M L) : am_M (d + 2) false nm_X2_addWord [aR 57] M (fun r N => r = .inl none ∧ alF M N ∧ lcL N (L ++ (cw k).map chr3)) := by
  obtain ⟨a, ek⟩ := kw_cw hk
  obtain ⟨i, hi, rfl⟩ := hk
  rw [(kyN_i i hi).1] at ek
  refine ⟨rfl, rfl, rfl, fun X hX => am_run hX 2 _ _ _ _ ?_⟩
  conv => whnf
  refine aw_s (d := d) (M := M) (i := i) hX hi hI hT ?_ i 0 (by omega)
  refine am_run hX 2 _ _ _ _ ?_
  conv => whnf
  have key := aw_p (d := d) (M := M) (i := i) hX hi hT (fun f r r6 hf hb hr => ?_) i i (M.1 65) [] (Nat.le_refl _) hi (List.append_nil _) (fun j hj => absurd hj (Nat.not_lt_zero _)) (fun b hb => absurd hb List.not_mem_nil)
  · rw [mm_iz] at key
    exact key
  · refine am_run hX 4 _ _ _ _ ?_
    conv => whnf
    rw [nI_s1']
    refine aw_w (d := d) (M := mm_i M 65 f) (L := L) (r := r) hX r6 hb hL (by rw [mm_i1]; exact hf) (fun N fN lN => ?_) r.length (mm_i M 65 f) (Nat.le_refl _) (alF_r _) rfl ?_
    · rw [hr, ← ek] at lN
      refine ⟨rfl, alF_t ⟨fun k a b c => mm_ne _ _ _ _ b, fun y _ => by rw [mm_ne _ _ _ _ (by decide)], rfl⟩ fN, lN⟩
    · rw [List.drop_length]
      refine ⟨?_, fun j hj => ?_⟩
      · show (mm_i M 65 f).1 57 14 = nI (L ++ []).length
        rw [mm_ne _ _ _ _ (by decide), List.append_nil]
        exact hl.1
      · show (mm_i M 65 f).1 67 j = nI ((L ++ []).getD j 0)
        rw [mm_ne _ _ _ _ (by decide), List.append_nil]
        exact hl.2 j (by have hj : j < (L ++ []).length := hj; rw [List.append_nil] at hj; exact hj)
theorem fmG_l {st : List Nat × (Nat × Nat)} (g : Nat) : (fmG st g).1.length ≤ st.1.length + 1 := by
  have t : (fmT st).1.length ≤ st.1.length + 1 := by
    unfold fmT
    split
    · show (st.1 ++ [sK st.2]).length ≤ _
      rw [List.length_append]
      exact Nat.le_refl _
    · show (st.1.take (st.1.length - 1)).length ≤ _
      rw [List.length_take]
      omega
  unfold fmG
  split
  · exact t
  · split
    · exact t
    · exact Nat.le_succ _
theorem fmG_3 {st : List Nat × (Nat × Nat)} (g : Nat) (h : ∀ s ∈ st.1, s < 3) : ∀ s ∈ (fmG st g).1, s < 3 := by
  have t : ∀ s ∈ (fmT st).1, s < 3 := by
    unfold fmT
    split
    · intro s hs
      rcases List.mem_append.mp hs with z | z
      · exact h s z
      · rw [List.mem_singleton.mp z]
        exact sK_3 _
    · intro s hs
      exact h s (List.mem_of_mem_take hs)
  unfold fmG
  split
  · exact t
  · split
    · exact t
    · exact h
set_option maxRecDepth 100000 in
theorem ff_l {P : am_Q} {X : am_X} {n c W : Nat} {l : List bk_X} {R : List Nat × (Nat × Nat)} (hX : am_K (d + 5) false nm_X2_findForm P X) (hb : bk_iv M n) (hc : c < n) (hC : bk_c M c W l.length) (hl : opsL M c W l) (hW : W ≤ 8) (hk8 : ∀ j, j < l.length → (zg l j).1 < 8) (hE : ∀ N, fcG M N → fcS N R → X 51 [some (aR 57), some (aR 9), some (aI (nI c)), some (aI (nI 0 + -1))] [] N) : ∀ (j : Nat) (N : mm_M) (st : List Nat × (Nat × Nat)), j ≤ l.length → fcG M N → fcS N st → (∀ s ∈ st.1, s < 3) → st.1.length + j ≤ 300 → fmR (kdR l j) st = R → X 28 [some (aR 57), some (aR 9), some (aI (nI c)), some (aI (nI j + -1))] [] N := by
  intro j
  induction j with
  | zero =>
    intro N st hj hF hS _ _ hR
    have hR : st = R := hR
    subst hR
    refine am_run hX 2 _ _ _ _ ?_
    conv => whnf
    exact ⟨fun _ => hE N hF hS, fun z => absurd (by decide) z⟩
  | succ j ih =>
    intro N st hj hF hS h3 hlen hR
    have jl : j < l.length := hj
    have l300 := hl.2.2.1
    have ow := (hl.2.2.2 j jl).1
    have bF : bkF M N := ⟨fun k hk => hF.1 k (by omega) (by omega), by rw [hF.1 9 (by decide) (by decide)], by rw [hF.1 108 (by decide) (by decide)]⟩
    have key := bk_at (d := d + 2) (M := N) (bkF_i bF hb) hc (bkF_c bF hC) jl
    rw [(opsL_F bF hl).2.2.2 j jl |>.2.1] at key
    rw [nI_d1]
    refine am_run hX 2 _ _ _ _ ?_
    conv => whnf
    refine ⟨fun z => absurd z (nI_n0 (by omega)), fun _ => ?_⟩
    refine am_run hX 5 _ _ _ _ ?_
    conv => whnf
    refine am_c1 key ?_
    refine am_run hX 1 _ _ _ _ ?_
    conv => whnf
    refine am_c1 (ct_kind (d := d + 4)) ?_
    rw [bk_k hW ow]
    refine am_run hX 1 _ _ _ _ ?_
    conv => whnf
    refine am_cq (ct_tG (d := d + 1) (M := N) (st := st) (hk8 j jl) (by omega) (fun i hi => by
      rw [List.getD_eq_getElem?_getD, List.getElem?_eq_getElem hi]
      exact h3 _ (List.getElem_mem hi)) hS) ?_
    rintro r1 N1 ⟨rfl, f1, s1⟩
    refine ⟨none, rfl, ?_⟩
    refine am_run hX 2 _ _ _ _ ?_
    conv => whnf
    have gl := fmG_l (st := st) (zg l j).1
    refine ih N1 (fmG st (zg l j).1) (by omega) (fcG_t hF f1) s1 (fmG_3 _ h3) (by omega) ?_
    rw [kdR_s] at hR
    exact hR
/-- what the class changes -/
def ffF (M N : mm_M) : Prop := (∀ k, k ≠ 57 → (k < 65 ∨ 69 < k) → N.1 k = M.1 k) ∧ (∀ y, (y < 10 ∨ 15 < y) → N.1 57 y = M.1 57 y) ∧ N.2 = M.2
theorem ffF_t {M N K : mm_M} (h : ffF M N) (g : ffF N K) : ffF M K := ⟨fun k a b => (g.1 k a b).trans (h.1 k a b), fun y a => (g.2.1 y a).trans (h.2.1 y a), g.2.2.trans h.2.2⟩
theorem ffF_m {M N : mm_M} (h : mwF M N) : ffF M N := ⟨fun k a b => h.1 k a (by omega) (by omega), fun y a => h.2.1 y (by omega) (by omega) (by omega), h.2.2⟩
theorem ffF_g {M N : mm_M} (h : fcG M N) : ffF M N := ⟨fun k a b => h.1 k a (by omega), fun y a => h.2.1 y (by omega) (by omega) (by omega), h.2.2⟩
theorem ffF_a {M N : mm_M} (h : alF M N) : ffF M N := ⟨fun k a b => h.1 k a (by omega) (by omega), fun y a => h.2.1 y (by omega), h.2.2⟩
theorem wtN_g {M N : mm_M} (h : fcG M N) (g : wtN M 24) : wtN N 24 := ⟨by rw [h.2.1 10 (by decide) (by decide) (by decide)]; exact g.1, fun q hq => by rw [h.1 68 (by decide) (by decide), h.1 69 (by decide) (by decide)]; exact g.2 q hq⟩
theorem wtN_a {M N : mm_M} (h : alF M N) (g : wtN M 24) : wtN N 24 := ⟨by rw [h.2.1 10 (by decide)]; exact g.1, fun q hq => by rw [h.1 68 (by decide) (by decide) (by decide), h.1 69 (by decide) (by decide) (by decide)]; exact g.2 q hq⟩
set_option maxRecDepth 100000 in
theorem ff_s {P : am_Q} {X : am_X} {c : Nat} {ss : List Nat} (hX : am_K (d + 5) false nm_X2_findForm P X) (h11 : M.1 57 11 = nI ss.length) (h66 : ∀ j, j < ss.length → M.1 66 j = nI (ss.getD j 0)) (h3 : ∀ s ∈ ss, s < 3) (hlen : ss.length ≤ 61) (hE : ∀ N, alF M N → lcL N ((syw ss).map chr3) → X 128 [some (aR 57), some (aR 9), some (aI (nI c)), some (aI (nI ss.length))] [] N) : ∀ (m j : Nat) (N : mm_M), j + m = ss.length → alF M N → lcL N ((syw (ss.take j)).map chr3) → X 66 [some (aR 57), some (aR 9), some (aI (nI c)), some (aI (nI j))] [] N := by
  have sl : ∀ l : List Nat, ((syw l).map chr3).length ≤ 3 * l.length := by
    intro l
    induction l with
    | nil => exact Nat.le_refl _
    | cons s l ih =>
      have a : ((sy s).map chr3).length ≤ 3 := by
        unfold sy
        split
        · exact (by decide : 1 ≤ 3)
        · split
          · exact (by decide : 2 ≤ 3)
          · exact (by decide : 3 ≤ 3)
      show ((sy s ++ syw l).map chr3).length ≤ 3 * (l.length + 1)
      rw [List.map_append, List.length_append]
      omega
  intro m
  induction m with
  | zero =>
    intro j N hj hF hl
    obtain rfl : j = ss.length := by omega
    rw [List.take_length] at hl
    refine am_run hX 4 _ _ _ _ ?_
    conv => whnf
    rw [hF.2.1 11 (by decide), h11]
    exact ⟨fun _ => hE N hF hl, fun z => absurd (nI_le (Nat.le_refl _) (by omega)) z⟩
  | succ m ih =>
    intro j N hj hF hl
    have jl : j < ss.length := by omega
    have s3 : ss.getD j 0 < 3 := by
      rw [List.getD_eq_getElem?_getD, List.getElem?_eq_getElem jl]
      exact h3 _ (List.getElem_mem jl)
    have L0 := sl (ss.take j)
    rw [List.length_take] at L0
    have es : (syw (ss.take (j + 1))).map chr3 = (syw (ss.take j)).map chr3 ++ (sy (ss.getD j 0)).map chr3 := by
      rw [tk_c jl, syw_a, syw_1, List.map_append]
    have e66 : ∀ N', alF M N' → N'.1 66 j = nI (ss.getD j 0) := fun N' f => by rw [f.1 66 (by decide) (by decide) (by decide)]; exact h66 j jl
    -- t
    have lt : ∀ (N' : mm_M) (L' : List Nat), alF M N' → lcL N' L' → L'.length < 900 → L' ++ [116] = (syw (ss.take (j + 1))).map chr3 → X 115 [some (aR 57), some (aR 9), some (aI (nI c)), some (aI (nI j))] [] N' := by
      intro N' L' f' l' n' e'
      refine am_run hX 4 _ _ _ _ ?_
      conv => whnf
      refine am_cq (ct_add1 (d := d + 4) (M := N') (c := 116) rfl (by omega) l') ?_
      rintro r1 N1 ⟨rfl, f1, l1, _⟩
      refine ⟨none, rfl, ?_⟩
      refine am_run hX 2 _ _ _ _ ?_
      conv => whnf
      rw [nI_1]
      exact ih (j + 1) N1 (by omega) (alF_t f' f1) (by rw [← e']; exact l1)
    -- h
    have lh : ∀ (N' : mm_M) (L' : List Nat), alF M N' → lcL N' L' → L'.length < 890 → L' ++ (if ss.getD j 0 = 0 then [116] else [104, 116]) = (syw (ss.take (j + 1))).map chr3 → X 95 [some (aR 57), some (aR 9), some (aI (nI c)), some (aI (nI j))] [] N' := by
      intro N' L' f' l' n' e'
      refine am_run hX 6 _ _ _ _ ?_
      conv => whnf
      refine ⟨vp_in_nI (by show j < 301; omega) (by decide), ?_⟩
      conv => whnf
      rw [nI_clamp (n := j) (by omega), e66 N' f']
      by_cases z0 : ss.getD j 0 = 0
      · rw [if_pos z0] at e'
        rw [z0]
        refine ⟨fun _ => ?_, fun z => absurd rfl z⟩
        refine am_run hX 1 _ _ _ _ ?_
        conv => whnf
        refine am_run hX 2 _ _ _ _ ?_
        conv => whnf
        refine am_c0 (ct_add0 (d := d + 4) (M := N')) ?_
        exact lt N' L' f' l' (by omega) e'
      · rw [if_neg z0] at e'
        refine ⟨fun z => absurd z (nI_ne0 (n := ss.getD j 0) (by omega) (by omega)), fun _ => ?_⟩
        refine am_run hX 2 _ _ _ _ ?_
        conv => whnf
        refine am_run hX 2 _ _ _ _ ?_
        conv => whnf
        refine am_cq (ct_add1 (d := d + 4) (M := N') (c := 104) rfl (by omega) l') ?_
        rintro r1 N1 ⟨rfl, f1, l1, _⟩
        refine ⟨none, rfl, ?_⟩
        exact lt N1 (L' ++ [104]) (alF_t f' f1) l1 (by rw [List.length_append]; exact Nat.lt_of_lt_of_le (Nat.add_lt_add_right n' 1) (by decide)) (by rw [List.append_assoc]; exact e')
    refine am_run hX 4 _ _ _ _ ?_
    conv => whnf
    rw [hF.2.1 11 (by decide), h11]
    refine ⟨fun z => absurd z (nI_ge (by omega) (by omega)), fun _ => ?_⟩
    refine am_run hX 7 _ _ _ _ ?_
    conv => whnf
    refine ⟨vp_in_nI (by show j < 301; omega) (by decide), ?_⟩
    conv => whnf
    rw [nI_clamp (n := j) (by omega), e66 N hF]
    by_cases z2 : ss.getD j 0 = 2
    · rw [z2] at es lh ⊢
      refine ⟨fun z => absurd rfl z, fun _ => ?_⟩
      refine am_run hX 2 _ _ _ _ ?_
      conv => whnf
      refine am_run hX 2 _ _ _ _ ?_
      conv => whnf
      refine am_cq (ct_add1 (d := d + 4) (M := N) (c := 115) rfl (by omega) hl) ?_
      rintro r1 N1 ⟨rfl, f1, l1, _⟩
      refine ⟨none, rfl, ?_⟩
      refine lh N1 _ (alF_t hF f1) l1 (by rw [List.length_append]; show _ + 1 < 890; omega) ?_
      rw [es, List.append_assoc]
      rfl
    · refine ⟨fun _ => ?_, fun z => absurd (fun q => z2 ((nI_eq (a := ss.getD j 0) (b := 2) (by omega) (by decide)).mp q)) z⟩
      refine am_run hX 1 _ _ _ _ ?_
      conv => whnf
      refine am_run hX 2 _ _ _ _ ?_
      conv => whnf
      refine am_c0 (ct_add0 (d := d + 4) (M := N)) ?_
      refine lh N _ hF hl (by omega) ?_
      rw [es]
      have : ss.getD j 0 = 0 ∨ ss.getD j 0 = 1 := by omega
      rcases this with e | e
      · rw [e]
        rfl
      · rw [e]
        rfl
set_option maxRecDepth 100000 in
theorem ct_fForm {n c W : Nat} {l : List bk_X} (hb : bk_iv M n) (hc : c < n) (hC : bk_c M c W l.length) (hl : opsL M c W l) (hW : W ≤ 8) (hk8 : ∀ j, j < l.length → (zg l j).1 < 8) (hh : wk (kdR l l.length) ≤ 60) (hT : wtI M) : am_M (d + 6) false nm_X2_findForm [aR 57, aR 9, aI (nI c)] M (fun r N => r = .inl none ∧ ffF M N ∧ wtN N 24 ∧ lcL N (fmW (kdR l l.length)) ∧ N.1 57 15 = nI (fmR (kdR l l.length) ([], (1, 2))).1.length) := by
  have n20 := hb.1
  have l300 := hl.2.2.1
  have hw8 : ∀ g ∈ kdR l l.length, g < 8 := by
    intro g hg
    unfold kdR at hg
    obtain ⟨i, hi, rfl⟩ := List.mem_map.mp (List.mem_reverse.mp hg)
    exact hk8 i (List.mem_range.mp hi)
  obtain ⟨i1, i2, i3, i4⟩ := fmI_w hw8
  have h61 : (fmR (kdR l l.length) ([], (1, 2))).1.length ≤ 61 := by
    have := nzc_l _ i3
    omega
  generalize hR : fmR (kdR l l.length) ([], (1, 2)) = R at *
  refine ⟨rfl, rfl, rfl, fun X hX => am_run hX 2 _ _ _ _ ?_⟩
  conv => whnf
  refine am_cq (ct_mkWs (d := d) hT) ?_
  rintro r1 N1 ⟨rfl, f1, t1⟩
  refine ⟨none, rfl, ?_⟩
  refine am_run hX 9 _ _ _ _ ?_
  conv => whnf
  generalize hN2 : mm_i _ 57 _ = N2
  have a1 : ∀ k, k ≠ 57 → N2.1 k = N1.1 k := fun k hk => by rw [← hN2, mm_ne _ _ _ _ hk, mm_ne _ _ _ _ hk, mm_ne _ _ _ _ hk]
  have a2 : N2.1 57 = upd (upd (upd (N1.1 57) 11 0) 12 1) 13 2 := by rw [← hN2, mm_i1, mm_i1, mm_i1]
  have a3 : N2.2 = N1.2 := by rw [← hN2]; rfl
  have f2 : fcG N1 N2 := ⟨fun k a _ => a1 k a, fun y a b c => by rw [a2, up_ne c, up_ne b, up_ne a], a3⟩
  have s2 : fcS N2 ([], (1, 2)) := ⟨⟨by rw [a2, up_ne (by decide)]; exact up_at, by rw [a2]; exact up_at, by decide, by decide⟩, by rw [a2, up_ne (by decide), up_ne (by decide)]; exact up_at, fun j hj => absurd hj (Nat.not_lt_zero _)⟩
  have F2 : ffF M N2 := ffF_t (ffF_m f1) (ffF_g f2)
  have bF : bkF M N2 := ⟨fun k hk => F2.1 k (by omega) (by omega), by rw [F2.1 9 (by decide) (by omega)], by rw [F2.1 108 (by decide) (by omega)]⟩
  have hl2 := opsL_F bF hl
  refine am_run hX 7 _ _ _ _ ?_
  conv => whnf
  refine ⟨vp_in_nI (by show c < 20; omega) (by decide), ?_⟩
  conv => whnf
  rw [nI_clamp (n := c) (by omega), hl2.1, nI_s1']
  refine ff_l (d := d) (M := N2) (R := R) hX (bkF_i bF hb) hc (bkF_c bF hC) hl2 hW hk8 (fun N3 f3 s3 => ?_) l.length N2 ([], (1, 2)) (Nat.le_refl _) (fcG_r N2) s2 (fun s hs => absurd hs List.not_mem_nil) (by show 0 + l.length ≤ 300; omega) hR
  have t3 := wtN_g f3 (wtN_g f2 t1)
  refine am_run hX 3 _ _ _ _ ?_
  conv => whnf
  generalize hN4 : mm_i N3 57 _ = N4
  have b1 : ∀ k, k ≠ 57 → N4.1 k = N3.1 k := fun k hk => by rw [← hN4, mm_ne _ _ _ _ hk]
  have b2 : N4.1 57 = upd (N3.1 57) 14 0 := by rw [← hN4, mm_i1]
  have b3 : N4.2 = N3.2 := by rw [← hN4]; rfl
  refine am_run hX 4 _ _ _ _ ?_
  conv => whnf
  rw [b2, up_ne (by decide), s3.2.1]
  generalize hN5 : mm_i N4 57 _ = N5
  have c1 : ∀ k, k ≠ 57 → N5.1 k = N4.1 k := fun k hk => by rw [← hN5, mm_ne _ _ _ _ hk]
  have c2 : N5.1 57 = upd (upd (N3.1 57) 14 0) 15 (nI R.1.length) := by rw [← hN5, mm_i1]
  have c3 : N5.2 = N4.2 := by rw [← hN5]; rfl
  have F5 : ffF N3 N5 := ⟨fun k a _ => by rw [c1 k a, b1 k a], fun y a => by rw [c2, up_ne (by omega), up_ne (by omega)], by rw [c3, b3]⟩
  have t5 : wtN N5 24 := ⟨by rw [c2, up_ne (by decide), up_ne (by decide)]; exact t3.1, fun q hq => by rw [c1 68 (by decide), b1 68 (by decide), c1 69 (by decide), b1 69 (by decide)]; exact t3.2 q hq⟩
  have h3 : ∀ s ∈ R.1, s < 3 := by
    intro s hs
    obtain ⟨j, hj, rfl⟩ := List.getElem_of_mem hs
    have := (i3 j hj).1
    rw [List.getD_eq_getElem?_getD, List.getElem?_eq_getElem hj] at this
    exact this
  refine am_run hX 2 _ _ _ _ ?_
  conv => whnf
  refine ff_s (d := d) (M := N5) (c := c) (ss := R.1) hX (by rw [c2, up_ne (by decide), up_ne (by decide)]; exact s3.2.1) (fun j hj => by rw [c1 66 (by decide), b1 66 (by decide)]; exact s3.2.2 j hj) h3 h61 (fun N6 f6 l6 => ?_) R.1.length 0 N5 (by omega) (alF_r N5) ⟨by rw [c2, up_ne (by decide)]; exact up_at, fun j hj => absurd hj (Nat.not_lt_zero _)⟩
  have I6 : imS N6 R.2 := by
    obtain ⟨x1, x2, x3⟩ := s3.1
    refine ⟨?_, ?_, x3⟩
    · rw [f6.2.1 12 (by decide), c2, up_ne (by decide), up_ne (by decide)]
      exact x1
    · rw [f6.2.1 13 (by decide), c2, up_ne (by decide), up_ne (by decide)]
      exact x2
  have L900 : ((syw R.1).map chr3).length ≤ 900 := by
    have sl : ∀ l : List Nat, ((syw l).map chr3).length ≤ 3 * l.length := by
      intro l
      induction l with
      | nil => exact Nat.le_refl _
      | cons s l ih =>
        have a : ((sy s).map chr3).length ≤ 3 := by
          unfold sy
          split
          · exact (by decide : 1 ≤ 3)
          · split
            · exact (by decide : 2 ≤ 3)
            · exact (by decide : 3 ≤ 3)
        show ((sy s ++ syw l).map chr3).length ≤ 3 * (l.length + 1)
        rw [List.map_append, List.length_append]
        omega
    have := sl R.1
    omega
  refine am_run hX 2 _ _ _ _ ?_
  conv => whnf
  refine am_cq (ct_addW (d := d + 3) (M := N6) (k := R.2) i2 I6 (wtN_a f6 t5) L900 l6) ?_
  rintro r7 N7 ⟨rfl, f7, l7⟩
  refine ⟨none, rfl, ?_⟩
  refine am_run hX 1 _ _ _ _ ?_
  conv => whnf
  refine ⟨trivial, rfl, ffF_t (ffF_t F2 (ffF_g f3)) (ffF_t F5 (ffF_t (ffF_a f6) (ffF_a f7))), wtN_a f7 (wtN_a f6 t5), ?_, ?_⟩
  · unfold fmW
    rw [hR, List.map_append]
    exact l7
  · rw [f7.2.1 15 (by decide), f6.2.1 15 (by decide), c2]
    exact up_at
end FMS
