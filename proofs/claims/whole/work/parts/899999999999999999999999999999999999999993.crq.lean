/-! circuit: what is always so stays so -/
theorem msk_fr {fr : Nat} : ∀ (cs : List Nat) (a : Nat), a < 2 ^ fr → (∀ w ∈ cs, w < fr) → cs.foldl (fun a w => a ||| 2 ^ w) a < 2 ^ fr
  | [], _, h, _ => h
  | w :: cs, a, h, hw => msk_fr cs (a ||| 2 ^ w) (Nat.or_lt_two_pow h (Nat.pow_lt_pow_right (by decide) (hw w List.mem_cons_self))) (fun x hx => hw x (List.mem_cons_of_mem _ hx))
theorem mpN_fr {f : Nat → Nat} {m fr : Nat} (h : ∀ i, m.testBit i = true → f i < fr) : ∀ j, mpN f m j < 2 ^ fr
  | 0 => Nat.pow_pos (by decide)
  | j + 1 => by
    rw [mpN_s]
    split
    · rename_i q
      exact Nat.or_lt_two_pow (mpN_fr h j) (Nat.pow_lt_pow_right (by decide) (h j q))
    · exact mpN_fr h j
theorem gdd_l {ws : List Nat} {fr j : Nat} (h : ∀ w ∈ ws, w < fr) (hj : j < ws.length) : ws.getD j 0 < fr := by
  rw [List.getD_eq_getElem?_getD, List.getElem?_eq_getElem hj]
  exact h _ (List.getElem_mem hj)
theorem rg_ev {k fr : Nat} {bk : Bool} {cs ws : List Nat} (k8 : k ≤ 8) (hl : ws.length = (if k = 8 then 2 else 1)) (hk : evk fr (cs ++ ws)) : rgX fr (evX (0, 0) (evG k bk cs ws)) := by
  have hw : ∀ w ∈ ws, w < fr := fun w h => hk.2 w (List.mem_append.mpr (Or.inr h))
  have e : evX (0, 0) (evG k bk cs ws) = (if bk = true then ikN k else k, ws.getD 0 0, if k = 8 then ws.getD 1 0 else 0, mskL cs, 0, 0) := rfl
  rw [e]
  obtain ⟨i1, i2⟩ := ikk_8 k k8
  have k1 : (if bk = true then ikN k else k) ≤ 8 ∧ ((if bk = true then ikN k else k) = 8 ↔ k = 8) := by
    split
    · exact ⟨i1, i2⟩
    · exact ⟨k8, Iff.rfl⟩
  refine ⟨k1.1, gdd_l hw (by rw [hl]; split <;> omega), ?_, msk_fr cs 0 (Nat.pow_pos (by decide)) (fun w h => hk.2 w (List.mem_append.mpr (Or.inl h))), rfl⟩
  show if (if bk = true then ikN k else k) = 8 then (if k = 8 then ws.getD 1 0 else 0) < fr else (if k = 8 then ws.getD 1 0 else 0) = 0
  by_cases q : k = 8
  · rw [if_pos (k1.2.mpr q), if_pos q]
    exact gdd_l hw (by rw [hl, if_pos q]; decide)
  · rw [if_neg (fun z => q (k1.2.mp z)), if_neg q]
theorem rg_rn {K fr h : Nat} {g : Nat → Nat} {x : bk_X} (hK : K ≤ 4) (hx : rgX K x) (hg : ∀ i, i < K → g i < fr) (hh : h < 2 ^ fr) : rgX fr (adA (0, 0) (rnX g h x)) := by
  obtain ⟨h1, h2, h3, h4, h5⟩ := hx
  have a0 : x.2.2.2.2.1 = 0 := by rw [h5]
  have a1 : x.2.2.2.2.2 = 0 := by rw [h5]
  have tb : ∀ i, x.2.2.2.1.testBit i = true → g i < fr := by
    intro i hi
    by_cases q : i < K
    · exact hg i q
    · rw [Nat.testBit_lt_two_pow (Nat.lt_of_lt_of_le h4 (Nat.pow_le_pow_right (by decide) (by omega)))] at hi
      exact absurd hi (by decide)
  refine ⟨h1, hg _ h2, ?_, ?_, ?_⟩
  · show if x.1 = 8 then (if x.1 = 8 then g x.2.2.1 else x.2.2.1) < fr else (if x.1 = 8 then g x.2.2.1 else x.2.2.1) = 0
    split
    · rename_i q
      rw [if_pos q] at h3
      exact hg _ h3
    · rename_i q
      rw [if_neg q] at h3
      exact h3
  · show h ||| mpM g x.2.2.2.1 < 2 ^ fr
    rw [mpM_N g h4 hK]
    exact Nat.or_lt_two_pow hh (mpN_fr tb 4)
  · show (x.2.2.2.2.1 ||| 0, x.2.2.2.2.2 ||| 0) = (0, 0)
    rw [a0, a1]
    rfl
theorem iv_mem {P : bk_X → Prop} {b : Bool} {R : List bk_X} (h : ∀ x ∈ R, P x) (hi : ∀ x, P x → P (ivX x)) : ∀ x ∈ ivL b R, P x := by
  intro x hx
  unfold ivL at hx
  split at hx
  · obtain ⟨y, hy, rfl⟩ := List.mem_map.mp hx
    exact hi y (h y (List.mem_reverse.mp hy))
  · exact h x hx
theorem rpt_mem {D : List bk_X} {x : bk_X} : ∀ m, x ∈ rpt D m → x ∈ D
  | 0, h => absurd h List.not_mem_nil
  | m + 1, h => by
    rcases List.mem_append.mp h with y | y
    · exact y
    · exact rpt_mem m y
section CRS
variable {W : Nat} {c c1 : CX} {s : GS} {e : Ev}
theorem gI_G (h : isG c e c1) (hV : gIv W c s) (hV2 : gI2 c s) : gIv W c1 (clS e c c1 s) ∧ gI2 c1 (clS e c c1 s) := by
  obtain ⟨k, bk, cs, ws, i', f', rfl, rfl, k8, _, _, hl, hk⟩ := h
  obtain ⟨v1, v2, v3, v4, v5, v6, v7, v8, v9⟩ := hV
  obtain ⟨u1, u2, u3⟩ := hV2
  have es : clS (evG k bk cs ws) c (cxS c i' f') s = (if f' = 0 then gO s ++ [evX (gQ s) (evG k bk cs ws)] else gO s, gQ s, gS s, gR s) := rfl
  rw [es]
  have an : cxR c = 4 → cxA (cxS c i' f') = false → False := by
    intro r4 z
    have z : (cxA c || decide (cxR c = 4)) = false := z
    rw [decide_eq_true r4, Bool.or_true] at z
    exact absurd z (by decide)
  have ll : (gO s).length ≤ (if f' = 0 then gO s ++ [evX (gQ s) (evG k bk cs ws)] else gO s).length := by
    split
    · rw [List.length_append]; omega
    · exact Nat.le_refl _
  refine ⟨⟨v1, v2, v3, v4, v5, v6, fun j hj => ?_, v8, fun r4 z => (an r4 z).elim⟩, fun z => ?_, fun r4 z => (an r4 z).elim, u3⟩
  · obtain ⟨w1, w2, w3, w4, w5⟩ := v7 j hj
    exact ⟨w1, w2, Nat.le_trans w3 ll, w4, w5⟩
  · have z : f' = 0 := z
    obtain ⟨k1, k2⟩ := hk z
    obtain ⟨q1, q2⟩ := u1 k1
    refine ⟨q1, fun r4 x hx => ?_⟩
    have hx : x ∈ (if f' = 0 then gO s ++ [evX (gQ s) (evG k bk cs ws)] else gO s) := hx
    rw [if_pos z] at hx
    rcases List.mem_append.mp hx with y | y
    · exact q2 r4 x y
    · rw [List.mem_singleton.mp y, (u3 r4).2.1]
      exact rg_ev k8 hl k2
theorem gI_U (h : isU c e c1) (hV : gIv W c s) (hV2 : gI2 c s) : gIv W c1 (clS e c c1 s) ∧ gI2 c1 (clS e c c1 s) := by
  obtain ⟨l, bk, cs, ws, i', f', rfl, rfl, l4, hk⟩ := h
  obtain ⟨v1, v2, v3, v4, v5, v6, v7, v8, v9⟩ := hV
  obtain ⟨u1, u2, u3⟩ := hV2
  have es : clS (evU l bk cs ws) c (cxS c i' f') s = (if f' = 0 then gO s ++ (usL (evU l bk cs ws) (gR s l)).map (adA (gQ s)) else gO s, gQ s, gS s, gR s) := rfl
  rw [es]
  have an : cxR c = 4 → cxA (cxS c i' f') = false → False := by
    intro r4 z
    have z : (cxA c || decide (cxR c = 4)) = false := z
    rw [decide_eq_true r4, Bool.or_true] at z
    exact absurd z (by decide)
  have ll : (gO s).length ≤ (if f' = 0 then gO s ++ (usL (evU l bk cs ws) (gR s l)).map (adA (gQ s)) else gO s).length := by
    split
    · rw [List.length_append]; omega
    · exact Nat.le_refl _
  refine ⟨⟨v1, v2, v3, v4, v5, v6, fun j hj => ?_, v8, fun r4 z => (an r4 z).elim⟩, fun z => ?_, fun r4 z => (an r4 z).elim, u3⟩
  · obtain ⟨w1, w2, w3, w4, w5⟩ := v7 j hj
    exact ⟨w1, w2, Nat.le_trans w3 ll, w4, w5⟩
  · have z : f' = 0 := z
    obtain ⟨k1, k2, k3, k4⟩ := hk z
    obtain ⟨q1, q2⟩ := u1 k1
    refine ⟨q1, fun r4 x hx => ?_⟩
    have hx : x ∈ (if f' = 0 then gO s ++ (usL (evU l bk cs ws) (gR s l)).map (adA (gQ s)) else gO s) := hx
    rw [if_pos z] at hx
    rcases List.mem_append.mp hx with y | y
    · exact q2 r4 x y
    · rw [(u3 r4).2.1] at y
      obtain ⟨y1, hy1, rfl⟩ := List.mem_map.mp y
      obtain ⟨y2, hy2, rfl⟩ := List.mem_map.mp hy1
      have r := iv_mem (q1 l l4 k2) (fun _ => rg_iv) y2 hy2
      exact rg_rn (v5 l) r (fun i hi => gdd_l (fun w h => k4.2 w (List.mem_append.mpr (Or.inr h))) (show i < ws.length from by rw [k3]; exact hi)) (msk_fr cs 0 (Nat.pow_pos (by decide)) (fun w h => k4.2 w (List.mem_append.mpr (Or.inl h))))
theorem gI_M (h : isM c e c1) (hV : gIv W c s) (hV2 : gI2 c s) : gIv W c1 (clS e c c1 s) ∧ gI2 c1 (clS e c c1 s) := by
  obtain ⟨k, w, b, i', f', rfl, rfl, r4, _, hk⟩ := h
  obtain ⟨v1, v2, v3, v4, v5, v6, v7, v8, v9⟩ := hV
  obtain ⟨u1, u2, u3⟩ := hV2
  have es : clS (evM k w b) c (i', f', cxW c, cxD c, cxR c, true, cxT c) s = (if f' = 0 then gO s ++ [evX (gQ s) (evM k w b)] else gO s, gQ s, gS s, gR s) := rfl
  rw [es]
  have ll : (gO s).length ≤ (if f' = 0 then gO s ++ [evX (gQ s) (evM k w b)] else gO s).length := by
    split
    · rw [List.length_append]; omega
    · exact Nat.le_refl _
  refine ⟨⟨v1, v2, v3, v4, v5, v6, fun j hj => ?_, v8, fun _ z => absurd (show true = false from z) (by decide)⟩, fun z => ?_, fun _ z => absurd (show true = false from z) (by decide), fun z => absurd r4 z⟩
  · obtain ⟨w1, w2, w3, w4, w5⟩ := v7 j hj
    exact ⟨w1, w2, Nat.le_trans w3 ll, w4, w5⟩
  · exact ⟨(u1 (hk z).1).1, fun z => absurd r4 z⟩
theorem gI_B (h : isB c e c1) (hV : gIv W c s) (hV2 : gI2 c s) : gIv W c1 (clS e c c1 s) ∧ gI2 c1 (clS e c c1 s) := by
  obtain ⟨k, q, i', rfl, rfl, D8, hk⟩ := h
  obtain ⟨v1, v2, v3, v4, v5, v6, v7, v8, v9⟩ := hV
  obtain ⟨u1, u2, u3⟩ := hV2
  have es : clS (evB k q) c (i', cxF c, cxW c, cxD c + 1, cxR c, cxA c || decide (cxR c = 4), cxT c) s = (gO s, askA (gQ s) k q, (fun j => if j = cxD c then (if k = 14 then q else 1, gQ s, (gO s).length) else gS s j), gR s) := rfl
  rw [es]
  have an : cxR c = 4 → (cxA c || decide (cxR c = 4)) = false → False := by
    intro r4 z
    rw [decide_eq_true r4, Bool.or_true] at z
    exact absurd z (by decide)
  have q16 : q < 4 → 2 ^ q < 2 ^ 4 := fun h => Nat.pow_lt_pow_right (by decide) h
  refine ⟨⟨v1, v2, ?_, v4, v5, ?_, fun j hj => ?_, fun _ => ?_, fun r4 z => (an r4 z).elim⟩, fun z => ?_, fun r4 z => (an r4 z).elim, fun r4 => ?_⟩
  · show cxD c + 1 ≤ 8
    omega
  · show (askA (gQ s) k q).1 < 16 ∧ (askA (gQ s) k q).2 < 16
    unfold askA
    split
    · exact ⟨Nat.or_lt_two_pow (n := 4) v6.1 (q16 (by omega)), v6.2⟩
    · split
      · exact ⟨v6.1, Nat.or_lt_two_pow (n := 4) v6.2 (q16 (by omega))⟩
      · exact v6
  · have hj : j < cxD c + 1 := hj
    show (if j = cxD c then (if k = 14 then q else 1, gQ s, (gO s).length) else gS s j).1 ≤ 9 ∧ ((if j = cxD c then (if k = 14 then q else 1, gQ s, (gO s).length) else gS s j).2.1.1 < 16 ∧ (if j = cxD c then (if k = 14 then q else 1, gQ s, (gO s).length) else gS s j).2.1.2 < 16) ∧ (if j = cxD c then (if k = 14 then q else 1, gQ s, (gO s).length) else gS s j).2.2 ≤ (gO s).length ∧ (∀ i, i ≤ j → (if i = cxD c then (if k = 14 then q else 1, gQ s, (gO s).length) else gS s i).2.2 ≤ (if j = cxD c then (if k = 14 then q else 1, gQ s, (gO s).length) else gS s j).2.2) ∧ ((if j = cxD c then (if k = 14 then q else 1, gQ s, (gO s).length) else gS s j).1 = 0 ↔ (j = 0 ∧ cxR c ≠ 4))
    by_cases ej : j = cxD c
    · rw [if_pos ej]
      refine ⟨?_, v6, Nat.le_refl _, fun i hi => ?_, ?_⟩
      · show (if k = 14 then q else 1) ≤ 9
        split <;> omega
      · by_cases ei : i = cxD c
        · rw [if_pos ei]
          exact Nat.le_refl _
        · rw [if_neg ei]
          exact (v7 i (by omega)).2.2.1
      · show (if k = 14 then q else 1) = 0 ↔ _
        refine ⟨fun z => ?_, fun z => ?_⟩
        · split at z <;> omega
        · have := v8 z.2
          omega
    · rw [if_neg ej]
      obtain ⟨w1, w2, w3, w4, w5⟩ := v7 j (by omega)
      refine ⟨w1, w2, w3, fun i hi => ?_, w5⟩
      rw [if_neg (by omega)]
      exact w4 i hi
  · show 1 ≤ cxD c + 1
    omega
  · exact ⟨(u1 z).1, (u1 z).2⟩
  · have r4 : cxR c ≠ 4 := r4
    obtain ⟨y1, y2, y3⟩ := u3 r4
    have k14 : k = 14 := by
      rcases hk with z | z
      · exact z.1
      · exact absurd z.2.2 r4
    refine ⟨y1, ?_, fun j hj => ?_⟩
    · show askA (gQ s) k q = (0, 0)
      rw [k14]
      exact y2
    · have hj : j < cxD c + 1 := hj
      show (if j = cxD c then (if k = 14 then q else 1, gQ s, (gO s).length) else gS s j).2.1 = (0, 0)
      by_cases ej : j = cxD c
      · rw [if_pos ej]
        exact y2
      · rw [if_neg ej]
        exact y3 j (by omega)
theorem gI_R (h : isR c e c1) (hV : gIv W c s) (hV2 : gI2 c s) : gIv W c1 (clS e c c1 s) ∧ gI2 c1 (clS e c c1 s) := by
  obtain ⟨l, k, i', f', rfl, rfl, r4, ah, l4, k1, k4, hk⟩ := h
  obtain ⟨v1, v2, v3, v4, v5, v6, v7, v8, v9⟩ := hV
  obtain ⟨u1, u2, u3⟩ := hV2
  have es : clS (evR' l k) c (i', f', k, cxD c + 1, l, cxA c, cxT c) s = (gO s, gQ s, (fun j => if j = cxD c then (0, gQ s, (gO s).length) else gS s j), gR s) := rfl
  rw [es]
  have D0 := v9 r4 ah
  obtain ⟨o0, a0⟩ := u2 r4 ah
  refine ⟨⟨v1, ?_, ?_, ?_, v5, v6, fun j hj => ?_, fun _ => ?_, fun z => ?_⟩, fun z => ⟨?_, fun _ x hx => ?_⟩, fun z => ?_, fun _ => ⟨k4, a0, fun j hj => ?_⟩⟩
  · show k ≤ 8
    omega
  · show cxD c + 1 ≤ 8
    omega
  · show l ≤ 4
    omega
  · have hj : j < cxD c + 1 := hj
    have ej : j = cxD c := by omega
    show (if j = cxD c then (0, gQ s, (gO s).length) else gS s j).1 ≤ 9 ∧ ((if j = cxD c then (0, gQ s, (gO s).length) else gS s j).2.1.1 < 16 ∧ (if j = cxD c then (0, gQ s, (gO s).length) else gS s j).2.1.2 < 16) ∧ (if j = cxD c then (0, gQ s, (gO s).length) else gS s j).2.2 ≤ (gO s).length ∧ (∀ i, i ≤ j → (if i = cxD c then (0, gQ s, (gO s).length) else gS s i).2.2 ≤ (if j = cxD c then (0, gQ s, (gO s).length) else gS s j).2.2) ∧ ((if j = cxD c then (0, gQ s, (gO s).length) else gS s j).1 = 0 ↔ (j = 0 ∧ l ≠ 4))
    rw [if_pos ej]
    refine ⟨Nat.zero_le _, v6, Nat.le_refl _, fun i hi => ?_, ⟨fun _ => ⟨by omega, by omega⟩, fun _ => rfl⟩⟩
    rw [if_pos (by omega)]
    exact Nat.le_refl _
  · show 1 ≤ cxD c + 1
    omega
  · have z : l = 4 := z
    omega
  · exact (u1 (hk z).1).1
  · have hx : x ∈ gO s := hx
    rw [o0] at hx
    exact absurd hx List.not_mem_nil
  · have z : l = 4 := z
    omega
  · have hj : j < cxD c + 1 := hj
    show (if j = cxD c then (0, gQ s, (gO s).length) else gS s j).2.1 = (0, 0)
    rw [if_pos (by omega)]
    exact a0
theorem gI_C (h : isC W c e c1) (hV : gIv W c s) (hV2 : gI2 c s) : gIv W c1 (clS e c c1 s) ∧ gI2 c1 (clS e c c1 s) := by
  obtain ⟨rfl, D0, i', h⟩ := h
  obtain ⟨v1, v2, v3, v4, v5, v6, v7, v8, v9⟩ := hV
  obtain ⟨u1, u2, u3⟩ := hV2
  rcases h with ⟨D1, r4, rfl⟩ | ⟨no, rfl⟩
  · have es : clS evC c (i', cxF c, W, 0, 4, cxA c, fun l => if l = cxR c ∧ cxT c l = 0 then cxW c else cxT c l) s = ([], (gS s 0).2.1, gS s, fun l => if l = cxR c ∧ cxT c l = 0 then gO s else gR s l) := by
      unfold clS
      rw [if_neg (by decide), if_neg (by decide), if_pos (show evC.1 = 5 from rfl), if_pos ⟨D1, r4⟩]
    rw [es]
    obtain ⟨y1, y2, y3⟩ := u3 r4
    have s0 := y3 0 (by omega)
    refine ⟨⟨v1, v1, (by decide : 0 ≤ 8), (by decide : 4 ≤ 4), fun l => ?_, ?_, fun j hj => absurd hj (Nat.not_lt_zero _), fun z => absurd rfl z, fun _ _ => rfl⟩, fun z => ⟨fun l hl ht x hx => ?_, fun z => absurd rfl z⟩, fun _ _ => ⟨rfl, s0⟩, fun z => absurd rfl z⟩
    · show (if l = cxR c ∧ cxT c l = 0 then cxW c else cxT c l) ≤ 4
      split
      · exact y1
      · exact v5 l
    · show (gS s 0).2.1.1 < 16 ∧ (gS s 0).2.1.2 < 16
      rw [s0]
      decide
    · have hx : x ∈ (if l = cxR c ∧ cxT c l = 0 then gO s else gR s l) := hx
      have ht : (if l = cxR c ∧ cxT c l = 0 then cxW c else cxT c l) ≠ 0 := ht
      show rgX (if l = cxR c ∧ cxT c l = 0 then cxW c else cxT c l) x
      by_cases q : l = cxR c ∧ cxT c l = 0
      · rw [if_pos q] at hx ⊢
        exact (u1 z).2 r4 x hx
      · rw [if_neg q] at hx ht ⊢
        exact (u1 z).1 l hl ht x hx
  · have es : clS evC c (i', cxF c, cxW c, cxD c - 1, cxR c, cxA c, cxT c) s = ((gO s).take (gS s (cxD c - 1)).2.2 ++ rpt ((gO s).drop (gS s (cxD c - 1)).2.2) (gS s (cxD c - 1)).1, (gS s (cxD c - 1)).2.1, gS s, gR s) := by
      unfold clS
      rw [if_neg (by decide), if_neg (by decide), if_pos (show evC.1 = 5 from rfl), if_neg no]
    rw [es]
    obtain ⟨w1, w2, w3, w4, w5⟩ := v7 (cxD c - 1) (by omega)
    refine ⟨⟨v1, v2, ?_, v4, v5, w2, fun j hj => ?_, fun r4 => ?_, fun r4 ah => ?_⟩, fun z => ⟨(u1 z).1, fun r4 x hx => ?_⟩, fun r4 ah => ?_, fun r4 => ⟨(u3 r4).1, (u3 r4).2.2 _ (by omega), fun j hj => ?_⟩⟩
    · show cxD c - 1 ≤ 8
      omega
    · have hj : j < cxD c - 1 := hj
      obtain ⟨z1, z2, z3, z4, z5⟩ := v7 j (by omega)
      refine ⟨z1, z2, ?_, z4, z5⟩
      show (gS s j).2.2 ≤ ((gO s).take (gS s (cxD c - 1)).2.2 ++ rpt ((gO s).drop (gS s (cxD c - 1)).2.2) (gS s (cxD c - 1)).1).length
      rw [List.length_append, List.length_take]
      have := w4 j (by omega)
      omega
    · have r4 : cxR c ≠ 4 := r4
      show 1 ≤ cxD c - 1
      have : ¬ cxD c = 1 := fun z => no ⟨z, r4⟩
      omega
    · exact absurd (v9 r4 ah) D0
    · have hx : x ∈ (gO s).take (gS s (cxD c - 1)).2.2 ++ rpt ((gO s).drop (gS s (cxD c - 1)).2.2) (gS s (cxD c - 1)).1 := hx
      refine (u1 z).2 r4 x ?_
      rcases List.mem_append.mp hx with y | y
      · exact List.mem_of_mem_take y
      · exact List.mem_of_mem_drop (rpt_mem _ y)
    · exact absurd (v9 r4 ah) D0
    · have hj : j < cxD c - 1 := hj
      exact (u3 r4).2.2 j (by omega)
theorem gI_s {T : Nat → Nat} {t : Nat} (hT : ∀ j, j < t → T j < 127) (it : cxI c ≤ t) (h : tkE T t W c = .inr (e, c1)) (hV : gIv W c s) (hV2 : gI2 c s) : gIv W c1 (clS e c c1 s) ∧ gI2 c1 (clS e c c1 s) := by
  rcases (tk_k hT it h).1 with q | q | q | q | q | q
  · exact gI_G q hV hV2
  · exact gI_U q hV hV2
  · exact gI_M q hV hV2
  · exact gI_B q hV hV2
  · exact gI_R q hV hV2
  · exact gI_C q hV hV2
end CRS
