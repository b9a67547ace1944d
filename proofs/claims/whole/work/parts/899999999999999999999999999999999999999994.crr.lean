/-! circuit: OPS are right ones -/
theorem mpN_t {f : Nat → Nat} {m y : Nat} : ∀ j, (mpN f m j).testBit y = true ↔ ∃ i, i < j ∧ m.testBit i = true ∧ f i = y
  | 0 => by
    refine ⟨fun z => ?_, fun ⟨i, hi, _⟩ => absurd hi (Nat.not_lt_zero _)⟩
    have z : (0 : Nat).testBit y = true := z
    rw [Nat.zero_testBit] at z
    exact absurd z (by decide)
  | j + 1 => by
    rw [mpN_s]
    by_cases q : m.testBit j = true
    · rw [if_pos q, Nat.testBit_or, Bool.or_eq_true, mpN_t j, Nat.testBit_two_pow, decide_eq_true_iff]
      constructor
      · rintro (⟨i, a, b, e⟩ | e)
        · exact ⟨i, by omega, b, e⟩
        · exact ⟨j, by omega, q, e⟩
      · rintro ⟨i, a, b, e⟩
        by_cases ij : i = j
        · rw [ij] at e
          exact Or.inr e
        · exact Or.inl ⟨i, by omega, b, e⟩
    · rw [if_neg q, mpN_t j]
      constructor
      · rintro ⟨i, a, b, e⟩
        exact ⟨i, by omega, b, e⟩
      · rintro ⟨i, a, b, e⟩
        by_cases ij : i = j
        · rw [ij] at b
          exact absurd b q
        · exact ⟨i, by omega, b, e⟩
theorem evk_l {fr : Nat} {cs ws : List Nat} (h : evk fr (cs ++ ws)) : (∀ w ∈ cs, w < fr) ∧ (∀ w ∈ ws, w < fr) ∧ ws.Nodup ∧ ∀ w ∈ ws, w ∉ cs := by
  obtain ⟨a, b⟩ := h
  obtain ⟨a1, a2, a3⟩ := List.nodup_append.mp a
  exact ⟨fun w h => b w (List.mem_append.mpr (Or.inl h)), fun w h => b w (List.mem_append.mpr (Or.inr h)), a2, fun w h z => a3 w z w h rfl⟩
theorem gdd_m {ws : List Nat} {j : Nat} (hj : j < ws.length) : ws.getD j 0 ∈ ws := by
  rw [List.getD_eq_getElem?_getD, List.getElem?_eq_getElem hj]
  exact List.getElem_mem hj
theorem gddI {ws : List Nat} (hn : ws.Nodup) {i j : Nat} (hi : i < ws.length) (hj : j < ws.length) (e : ws.getD i 0 = ws.getD j 0) : i = j := by
  rw [List.getD_eq_getElem?_getD, List.getElem?_eq_getElem hi, List.getD_eq_getElem?_getD, List.getElem?_eq_getElem hj] at e
  exact (List.getElem_inj hn).mp e
theorem ogd_g {k fr : Nat} {bk : Bool} {cs ws : List Nat} {a : Nat × Nat} (hf : fr ≤ 8) (k8 : k ≤ 8) (hl : ws.length = (if k = 8 then 2 else 1)) (hk : evk fr (cs ++ ws)) (ha : a.1 < 16 ∧ a.2 < 16) : ogd fr (evX a (evG k bk cs ws)) := by
  obtain ⟨h1, h2, h3, h4⟩ := evk_l hk
  have e : evX a (evG k bk cs ws) = (if bk = true then ikN k else k, ws.getD 0 0, if k = 8 then ws.getD 1 0 else 0, mskL cs, a.1, a.2) := rfl
  rw [e]
  obtain ⟨i1, i2⟩ := ikk_8 k k8
  have k1 : (if bk = true then ikN k else k) ≤ 8 ∧ ((if bk = true then ikN k else k) = 8 ↔ k = 8) := by
    split
    · exact ⟨i1, i2⟩
    · exact ⟨k8, Iff.rfl⟩
  have l0 : 0 < ws.length := by rw [hl]; split <;> omega
  have m0 := gdd_m l0
  refine ⟨⟨?_, h2 _ m0, ?_, msk_fr cs 0 (Nat.pow_pos (by decide)) h1, ha.1, ha.2⟩, ?_, fun q => ?_⟩
  · show (if bk = true then ikN k else k) ≤ 10
    omega
  · show (if k = 8 then ws.getD 1 0 else 0) < 8
    split
    · rename_i q
      have := h2 _ (gdd_m (ws := ws) (j := 1) (by rw [hl, if_pos q]; decide))
      omega
    · decide
  · show (mskL cs).testBit (ws.getD 0 0) = false
    rw [mskL_t]
    exact decide_eq_false (h4 _ m0)
  · have q : k = 8 := k1.2.mp q
    have l1 : 1 < ws.length := by rw [hl, if_pos q]; decide
    have m1 := gdd_m l1
    show (if k = 8 then ws.getD 1 0 else 0) < fr ∧ ws.getD 0 0 ≠ (if k = 8 then ws.getD 1 0 else 0) ∧ (mskL cs).testBit (if k = 8 then ws.getD 1 0 else 0) = false
    rw [if_pos q]
    refine ⟨h2 _ m1, fun z => absurd (gddI h3 l0 l1 z) (by decide), ?_⟩
    rw [mskL_t]
    exact decide_eq_false (h4 _ m1)
theorem ogd_m {k w b fr : Nat} {a : Nat × Nat} (k9 : (k = 9 ∧ b < 4) ∨ (k = 10 ∧ b = 0)) (hw : w < fr) (ha : a.1 < 16 ∧ a.2 < 16) : ogd fr (evX a (evM k w b)) := by
  have e : evX a (evM k w b) = (k, w, b, 0, a.1, a.2) := rfl
  rw [e]
  refine ⟨⟨?_, hw, ?_, Nat.pow_pos (by decide), ha.1, ha.2⟩, Nat.zero_testBit _, fun q => ?_⟩
  · show k ≤ 10
    omega
  · show b < 8
    omega
  · have q : k = 8 := q
    omega
theorem or16 {x y : Nat} (hx : x < 16) (hy : y < 16) : x ||| y < 16 := Nat.or_lt_two_pow (n := 4) hx hy
theorem ogd_u {K fr : Nat} {cs ws : List Nat} {x : bk_X} {a : Nat × Nat} (hf : fr ≤ 8) (hK : K ≤ 4) (hl : ws.length = K) (hk : evk fr (cs ++ ws)) (hx : rgX K x) (ho : ogd K x) (ha : a.1 < 16 ∧ a.2 < 16) : ogd fr (adA a (rnX (fun i => ws.getD i 0) (mskL cs) x)) := by
  obtain ⟨h1, h2, h3, h4⟩ := evk_l hk
  obtain ⟨r1, r2, r3, r4, r5⟩ := hx
  obtain ⟨⟨o1, o2, o3, o4, o5, o6⟩, o7, o8⟩ := ho
  have tb : ∀ i, x.2.2.2.1.testBit i = true → i < K := by
    intro i hi
    by_cases q : i < K
    · exact q
    · rw [Nat.testBit_lt_two_pow (Nat.lt_of_lt_of_le r4 (Nat.pow_le_pow_right (by decide) (by omega)))] at hi
      exact absurd hi (by decide)
  have bit : ∀ j, j < K → x.2.2.2.1.testBit j = false → (mskL cs ||| mpM (fun i => ws.getD i 0) x.2.2.2.1).testBit (ws.getD j 0) = false := by
    intro j hj hb
    rw [Nat.testBit_or, mskL_t, decide_eq_false (h4 _ (gdd_m (by omega))), Bool.false_or, mpM_N _ r4 hK]
    cases q : (mpN (fun i => ws.getD i 0) x.2.2.2.1 4).testBit (ws.getD j 0) with
    | false => rfl
    | true =>
      obtain ⟨i, _, hb2, e⟩ := (mpN_t 4).mp q
      have := gddI h3 (by have := tb i hb2; omega) (by omega) e
      rw [this, hb] at hb2
      exact absurd hb2 (by decide)
  refine ⟨⟨o1, h2 _ (gdd_m (by omega)), ?_, ?_, or16 o5 ha.1, or16 o6 ha.2⟩, bit _ r2 o7, fun q => ?_⟩
  · show (if x.1 = 8 then ws.getD x.2.2.1 0 else x.2.2.1) < 8
    split
    · rename_i q
      have := h2 _ (gdd_m (ws := ws) (j := x.2.2.1) (by rw [hl]; exact (o8 q).1))
      omega
    · exact o3
  · show mskL cs ||| mpM (fun i => ws.getD i 0) x.2.2.2.1 < 2 ^ fr
    rw [mpM_N _ r4 hK]
    exact Nat.or_lt_two_pow (msk_fr cs 0 (Nat.pow_pos (by decide)) h1) (mpN_fr (fun i hi => h2 _ (gdd_m (by have := tb i hi; omega))) 4)
  · have q : x.1 = 8 := q
    obtain ⟨q1, q2, q3⟩ := o8 q
    show (if x.1 = 8 then ws.getD x.2.2.1 0 else x.2.2.1) < fr ∧ ws.getD x.2.1 0 ≠ (if x.1 = 8 then ws.getD x.2.2.1 0 else x.2.2.1) ∧ (mskL cs ||| mpM (fun i => ws.getD i 0) x.2.2.2.1).testBit (if x.1 = 8 then ws.getD x.2.2.1 0 else x.2.2.1) = false
    rw [if_pos q]
    exact ⟨h2 _ (gdd_m (by omega)), fun z => q2 (gddI h3 (by omega) (by omega) z), bit _ q1 q3⟩
theorem ogd_iv {K : Nat} {x : bk_X} (hx : rgX K x ∧ ogd K x) : rgX K (ivX x) ∧ ogd K (ivX x) := by
  obtain ⟨hx, ⟨o1, o2⟩, o7, o8⟩ := hx
  obtain ⟨a, b⟩ := ikk_8 _ hx.1
  exact ⟨rg_iv hx, ⟨ik_16 _ o1, o2⟩, o7, fun q => o8 (b.mp q)⟩
/-- all OPS are right -/
def gI3 (c : CX) (s : GS) : Prop := cxF c = 0 → (∀ x ∈ gO s, ogd (cxW c) x) ∧ ∀ l, l < 4 → cxT c l ≠ 0 → ∀ x ∈ gR s l, ogd (cxT c l) x
theorem gJ_s {T : Nat → Nat} {t W : Nat} {c c1 : CX} {s : GS} {e : Ev} (hT : ∀ j, j < t → T j < 127) (it : cxI c ≤ t) (h : tkE T t W c = .inr (e, c1)) (hV : gIv W c s) (hV2 : gI2 c s) (hV3 : gI3 c s) : gI3 c1 (clS e c c1 s) := by
  obtain ⟨v1, v2, v3, v4, v5, v6, v7, v8, v9⟩ := hV
  obtain ⟨u1, u2, u3⟩ := hV2
  intro z
  rcases (tk_k hT it h).1 with q | q | q | q | q | q
  · obtain ⟨k, bk, cs, ws, i', f', rfl, rfl, k8, _, _, hl, hk⟩ := q
    have z : f' = 0 := z
    obtain ⟨k1, k2⟩ := hk z
    refine ⟨fun x hx => ?_, (hV3 k1).2⟩
    have hx : x ∈ (if f' = 0 then gO s ++ [evX (gQ s) (evG k bk cs ws)] else gO s) := hx
    rw [if_pos z] at hx
    rcases List.mem_append.mp hx with y | y
    · exact (hV3 k1).1 x y
    · rw [List.mem_singleton.mp y]
      exact ogd_g v2 k8 hl k2 v6
  · obtain ⟨l, bk, cs, ws, i', f', rfl, rfl, l4, hk⟩ := q
    have z : f' = 0 := z
    obtain ⟨k1, k2, k3, k4⟩ := hk z
    refine ⟨fun x hx => ?_, (hV3 k1).2⟩
    have hx : x ∈ (if f' = 0 then gO s ++ (usL (evU l bk cs ws) (gR s l)).map (adA (gQ s)) else gO s) := hx
    rw [if_pos z] at hx
    rcases List.mem_append.mp hx with y | y
    · exact (hV3 k1).1 x y
    · obtain ⟨y1, hy1, rfl⟩ := List.mem_map.mp y
      obtain ⟨y2, hy2, rfl⟩ := List.mem_map.mp hy1
      obtain ⟨p1, p2⟩ := iv_mem (P := fun x => rgX (cxT c l) x ∧ ogd (cxT c l) x) (fun x hx => ⟨(u1 k1).1 l l4 k2 x hx, (hV3 k1).2 l l4 k2 x hx⟩) (fun _ => ogd_iv) y2 hy2
      exact ogd_u v2 (v5 l) k3 k4 p1 p2 v6
  · obtain ⟨k, w, b, i', f', rfl, rfl, r4, k9, hk⟩ := q
    have z : f' = 0 := z
    obtain ⟨k1, k2⟩ := hk z
    refine ⟨fun x hx => ?_, (hV3 k1).2⟩
    have hx : x ∈ (if f' = 0 then gO s ++ [evX (gQ s) (evM k w b)] else gO s) := hx
    rw [if_pos z] at hx
    rcases List.mem_append.mp hx with y | y
    · exact (hV3 k1).1 x y
    · rw [List.mem_singleton.mp y]
      exact ogd_m k9 k2 v6
  · obtain ⟨k, q, i', rfl, rfl, D8, hk⟩ := q
    exact hV3 z
  · obtain ⟨l, k, i', f', rfl, rfl, r4, ah, l4, k1, k4, hk⟩ := q
    refine ⟨fun x hx => ?_, (hV3 (hk z).1).2⟩
    have hx : x ∈ gO s := hx
    rw [(u2 r4 ah).1] at hx
    exact absurd hx List.not_mem_nil
  · obtain ⟨rfl, D0, i', h⟩ := q
    rcases h with ⟨D1, r4, rfl⟩ | ⟨no, rfl⟩
    · have es : clS evC c (i', cxF c, W, 0, 4, cxA c, fun l => if l = cxR c ∧ cxT c l = 0 then cxW c else cxT c l) s = ([], (gS s 0).2.1, gS s, fun l => if l = cxR c ∧ cxT c l = 0 then gO s else gR s l) := by
        unfold clS
        rw [if_neg (by decide), if_neg (by decide), if_pos (show evC.1 = 5 from rfl), if_pos ⟨D1, r4⟩]
      rw [es]
      have z : cxF c = 0 := z
      refine ⟨fun x hx => absurd hx List.not_mem_nil, fun l hl ht x hx => ?_⟩
      have hx : x ∈ (if l = cxR c ∧ cxT c l = 0 then gO s else gR s l) := hx
      have ht : (if l = cxR c ∧ cxT c l = 0 then cxW c else cxT c l) ≠ 0 := ht
      show ogd (if l = cxR c ∧ cxT c l = 0 then cxW c else cxT c l) x
      by_cases q : l = cxR c ∧ cxT c l = 0
      · rw [if_pos q] at hx ⊢
        exact (hV3 z).1 x hx
      · rw [if_neg q] at hx ht ⊢
        exact (hV3 z).2 l hl ht x hx
    · have es : clS evC c (i', cxF c, cxW c, cxD c - 1, cxR c, cxA c, cxT c) s = ((gO s).take (gS s (cxD c - 1)).2.2 ++ rpt ((gO s).drop (gS s (cxD c - 1)).2.2) (gS s (cxD c - 1)).1, (gS s (cxD c - 1)).2.1, gS s, gR s) := by
        unfold clS
        rw [if_neg (by decide), if_neg (by decide), if_pos (show evC.1 = 5 from rfl), if_neg no]
      rw [es]
      have z : cxF c = 0 := z
      refine ⟨fun x hx => ?_, (hV3 z).2⟩
      have hx : x ∈ (gO s).take (gS s (cxD c - 1)).2.2 ++ rpt ((gO s).drop (gS s (cxD c - 1)).2.2) (gS s (cxD c - 1)).1 := hx
      refine (hV3 z).1 x ?_
      rcases List.mem_append.mp hx with y | y
      · exact List.mem_of_mem_take y
      · exact List.mem_of_mem_drop (rpt_mem _ y)
