/-! circuit: the class's blocks -/
section CRK
variable {d : Nat} {M : mm_M} {T : Nat → Nat} {t W : Nat} {c : CX} {s : GS}
theorem ask_w {a : Nat × Nat} (h : a.1 < 16 ∧ a.2 < 16) : askN a < 256 := by
  unfold askN
  omega
theorem bl_15 {b : Nat × (Nat × Nat) × Nat} (h : b.1 ≤ 9) (g : b.2.1.1 < 16 ∧ b.2.1.2 < 16) : (nI (blN b) &&& 15 = nI b.1) ∧ (nI (blN b) >>> ((4 : Int32) &&& 31)) &&& 255 = nI (askN b.2.1) ∧ nI (blN b) >>> ((12 : Int32) &&& 31) = nI (min b.2.2 301) := by
  have w := ask_w g
  have z1 : min b.2.2 301 ≤ 301 := by omega
  have e : blN b < 2 ^ 31 := by unfold blN; omega
  refine ⟨?_, ?_, ?_⟩
  · rw [nI_m15]
    congr 1
    unfold blN
    omega
  · have := nI_sh (n := blN b) (by omega) 4 (by decide)
    rw [show (nI 4 &&& 31) = (4 : Int32) &&& 31 from rfl] at this
    rw [this, nI_m255]
    congr 1
    unfold blN
    show _ / 16 % 256 = _
    omega
  · have := nI_sh (n := blN b) (by omega) 12 (by decide)
    rw [show (nI 12 &&& 31) = (12 : Int32) &&& 31 from rfl] at this
    rw [this]
    congr 1
    unfold blN
    show _ / 4096 = _
    omega
set_option maxRecDepth 200000 in
theorem ct_clB {i p : Nat} (hL : CLr M T t W c s) (hV : gIv W c s) (h8 : M.1 2 8 = nI i ∧ i ≤ t) (h9 : M.1 2 9 = nI p) : am_M (d + 2) false nm_X5_closeBlock [aR 2] M (stY M T t W c s (clE W c p i)) := by
  obtain ⟨l1, l2, l3, ⟨x1, x2, x3, x4, x5⟩, g1, g2, g3, g4⟩ := hL
  obtain ⟨v1, v2, v3, v4, v5, v6, v7, v8, v9⟩ := hV
  refine ⟨rfl, rfl, rfl, fun X hX => am_run hX 3 _ _ _ _ ?_⟩
  conv => whnf
  rw [x3]
  by_cases D0 : cxD c = 0
  · have eE : clE W c p i = .inl p := by unfold clE; rw [if_pos D0]
    rw [eE] at hX
    rw [D0]
    refine ⟨fun z => absurd rfl z, fun _ => ?_⟩
    refine am_run hX 2 _ _ _ _ ?_
    conv => whnf
    refine am_cq (ct_brok (d := d) h9) ?_
    rintro r1 N1 ⟨rfl, f1, e1⟩
    refine ⟨_, rfl, ?_⟩
    refine am_run hX 1 _ _ _ _ ?_
    conv => whnf
    exact ⟨rfl, rfl, e1, rdF_2 f1⟩
  · refine ⟨fun _ => ?_, fun z => absurd (nI_ne0 (n := cxD c) (by omega) (by omega)) z⟩
    have D1 : nI (cxD c) - 1 = nI (cxD c - 1) := by rw [show (1 : Int32) = nI 1 from rfl, nI_sub (by omega)]
    have Dl : cxD c - 1 < cxD c := by omega
    obtain ⟨w1, w2, w3, w4, w5⟩ := v7 (cxD c - 1) Dl
    have b7 := g3 (cxD c - 1) Dl
    generalize hb : gS s (cxD c - 1) = b at *
    obtain ⟨y1, y2, y3⟩ := bl_15 w1 w2
    refine am_run hX 6 _ _ _ _ ?_
    conv => whnf
    rw [x3, D1]
    generalize hN1 : mm_i M 2 _ = N1
    have F1 : r2F [13] M N1 := by rw [← hN1]; exact r2F_u M _ rfl
    have a13 : N1.1 2 13 = nI (cxD c - 1) := by rw [← hN1]; exact r2_at _ _ _
    have b71 : N1.1 7 (cxD c - 1) = nI (blN b) := by rw [F1.1 7 (by decide)]; exact b7
    refine am_run hX 5 _ _ _ _ ?_
    conv => whnf
    rw [a13]
    refine ⟨vp_in_nI (by show cxD c - 1 < 8; omega) (by decide), ?_⟩
    rw [nI_clamp (n := cxD c - 1) (by omega), b71]
    refine am_run hX 3 _ _ _ _ ?_
    conv => whnf
    rw [y1]
    refine am_run hX 6 _ _ _ _ ?_
    conv => whnf
    rw [a13]
    refine ⟨vp_in_nI (by show cxD c - 1 < 8; omega) (by decide), ?_⟩
    rw [nI_clamp (n := cxD c - 1) (by omega), b71]
    refine am_run hX 5 _ _ _ _ ?_
    conv => whnf
    rw [y2]
    generalize hN2 : mm_i N1 2 _ = N2
    have F2 : r2F [14] N1 N2 := by rw [← hN2]; exact r2F_u N1 _ rfl
    have a14 : N2.1 2 14 = nI (askN b.2.1) := by rw [← hN2]; exact r2_at _ _ _
    have F : r2F [13, 14] M N2 := r2F_t (r2F_w (by decide) F1) (r2F_w (by decide) F2)
    have c13 : N2.1 2 13 = nI (cxD c - 1) := by rw [F2.2.1 13 rfl]; exact a13
    have oO : opC N2 (gO s) := opC_2 rfl F g1
    refine am_run hX 2 _ _ _ _ ?_
    conv => whnf
    by_cases ro : cxD c = 1 ∧ cxR c ≠ 4
    · have b0 : b.1 = 0 := w5.mpr ⟨by omega, ro.2⟩
      have eE : clE W c p i = .inr (evC, (i, cxF c, W, 0, 4, cxA c, fun l => if l = cxR c ∧ cxT c l = 0 then cxW c else cxT c l)) := by
        unfold clE
        rw [if_neg D0, if_pos ro]
      rw [eE] at hX
      rw [b0]
      refine ⟨fun z => absurd rfl z, fun _ => ?_⟩
      have r4 : cxR c < 4 := by omega
      refine am_run hX 2 _ _ _ _ ?_
      conv => whnf
      refine am_cq (ct_clR (d := d) (M := N2) (l := cxR c) (fr := cxW c) (w := cxT c (cxR c)) (W := W) (O := gO s) r4 (by rw [F.2.1 15 rfl, x4, if_neg ro.2]) (by rw [F.2.1 10 rfl]; exact x1) (by rw [F.2.1 11 rfl]; exact x2) (by rw [F.1 6 (by decide)]; exact x5 _ r4) (v5 _) oO) ?_
      rintro r3 N3 ⟨rfl, ⟨k1, k2⟩, k3, k4, k5, k6, k7, k8⟩
      refine ⟨_, rfl, ?_⟩
      refine am_run hX 3 _ _ _ _ ?_
      conv => whnf
      have es : clS evC c (i, cxF c, W, 0, 4, cxA c, fun l => if l = cxR c ∧ cxT c l = 0 then cxW c else cxT c l) s = ([], b.2.1, gS s, fun l => if l = cxR c ∧ cxT c l = 0 then gO s else gR s l) := by
        have b' : gS s 0 = b := by rw [← hb, ro.1]
        unfold clS
        rw [if_neg (by decide), if_neg (by decide), if_pos (show evC.1 = 5 from rfl), if_pos ro, b']
      have d2 : ∀ y, y ≠ 11 → y ≠ 12 → y ≠ 15 → y ≠ 13 → y ≠ 14 → N3.1 2 y = M.1 2 y := by
        intro y q1 q2 q3 q4 q5
        rw [k3 y q1 q2 q3]
        refine F.2.1 y ?_
        cases q : [13, 14].contains y with
        | false => rfl
        | true =>
          have := List.contains_iff_mem.mp q
          simp only [List.mem_cons, List.not_mem_nil, or_false] at this
          omega
      refine ⟨rfl, rfl, ⟨fun k hk => by rw [k1 k (by omega) (by omega) (by omega) (by omega), F.1 k (by omega)], by rw [k2, F.2.2]⟩, ⟨?_, h8.2⟩, rdX_e (d2 6 (by decide) (by decide) (by decide) (by decide) (by decide)) (d2 7 (by decide) (by decide) (by decide) (by decide) (by decide)) (by rw [k1 1 (by decide) (by decide) (by decide) (by decide), F.1 1 (by decide)]) l1, ⟨?_, l2.2⟩, ?_, ⟨?_, k5, ?_, k4, ?_⟩, ?_⟩
      · rw [d2 8 (by decide) (by decide) (by decide) (by decide) (by decide)]; exact h8.1
      · rw [d2 19 (by decide) (by decide) (by decide) (by decide) (by decide)]; exact l2.1
      · rw [d2 16 (by decide) (by decide) (by decide) (by decide) (by decide)]; exact l3
      · rw [d2 10 (by decide) (by decide) (by decide) (by decide) (by decide)]; exact x1
      · rw [k3 13 (by decide) (by decide) (by decide), c13, ro.1]
        rfl
      · intro l hl
        show N3.1 6 l = nI (if l = cxR c ∧ cxT c l = 0 then cxW c else cxT c l)
        by_cases w0 : cxT c (cxR c) = 0
        · rw [(k8 w0).1]
          by_cases e : l = cxR c
          · rw [e, up_at, if_pos ⟨rfl, w0⟩]
          · rw [up_ne e, if_neg (fun z => e z.1), F.1 6 (by decide)]
            exact x5 l hl
        · rw [(k7 w0).2.2, if_neg (fun z => w0 (by rw [← z.1]; exact z.2)), F.1 6 (by decide)]
          exact x5 l hl
      · rw [es]
        refine ⟨⟨k6, fun _ j hj => absurd hj (Nat.not_lt_zero _)⟩, ?_, fun j hj => absurd hj (Nat.not_lt_zero _), ?_⟩
        · show N3.1 2 14 = nI (askN b.2.1)
          rw [k3 14 (by decide) (by decide) (by decide)]
          exact a14
        · intro l hl ht
          show rtK N3 l (if l = cxR c ∧ cxT c l = 0 then gO s else gR s l)
          have ht : (if l = cxR c ∧ cxT c l = 0 then cxW c else cxT c l) ≠ 0 := ht
          by_cases e : l = cxR c ∧ cxT c l = 0
          · rw [if_pos e]
            have w0 : cxT c (cxR c) = 0 := by rw [← e.1]; exact e.2
            rw [e.1]
            exact (k8 w0).2.1
          · rw [if_neg e] at ht ⊢
            have old := g4 l hl ht
            have o2 : rtK N2 l (gR s l) := rtK_e hl (by rw [F.1 5 (by decide)]) (fun j _ => by rw [F.1 4 (by decide)]) old
            by_cases w0 : cxT c (cxR c) = 0
            · have ne : l ≠ cxR c := fun q => e ⟨q, by rw [q]; exact w0⟩
              obtain ⟨z1, z2⟩ := (k8 w0).2.2 l ne hl
              exact rtK_e hl z1 z2 o2
            · obtain ⟨z1, z2, _⟩ := k7 w0
              exact rtK_e hl (by rw [z2]) (fun j _ => by rw [z1]) o2
    · have b0 : b.1 ≠ 0 := fun z => ro ⟨by have := (w5.mp z).1; omega, (w5.mp z).2⟩
      have eE : clE W c p i = .inr (evC, (i, cxF c, cxW c, cxD c - 1, cxR c, cxA c, cxT c)) := by
        unfold clE
        rw [if_neg D0, if_neg ro]
      rw [eE] at hX
      refine ⟨fun _ => ?_, fun z => absurd (nI_ne0 (n := b.1) (by omega) (by omega)) z⟩
      have b72 : N2.1 7 (cxD c - 1) = nI (blN b) := by rw [F.1 7 (by decide)]; exact b7
      refine am_run hX 6 _ _ _ _ ?_
      conv => whnf
      rw [c13]
      refine ⟨vp_in_nI (by show cxD c - 1 < 8; omega) (by decide), ?_⟩
      rw [nI_clamp (n := cxD c - 1) (by omega), b72]
      refine am_run hX 3 _ _ _ _ ?_
      conv => whnf
      rw [y3]
      obtain ⟨m, hm⟩ : ∃ m, b.1 = m + 1 := ⟨b.1 - 1, by omega⟩
      rw [hm]
      refine am_run hX 1 _ _ _ _ ?_
      conv => whnf
      refine am_cq (ct_rep (d := d) (M := N2) (fr := b.2.2) (m := m) (by omega) w3 oO) ?_
      rintro r3 N3 ⟨rfl, f3, o3⟩
      refine ⟨_, rfl, ?_⟩
      refine am_run hX 2 _ _ _ _ ?_
      conv => whnf
      have es : clS evC c (i, cxF c, cxW c, cxD c - 1, cxR c, cxA c, cxT c) s = ((gO s).take b.2.2 ++ rpt ((gO s).drop b.2.2) b.1, b.2.1, gS s, gR s) := by
        unfold clS
        rw [if_neg (by decide), if_neg (by decide), if_pos (show evC.1 = 5 from rfl), if_neg ro, hb]
      have d2 : ∀ y, y ≠ 12 → y ≠ 13 → y ≠ 14 → N3.1 2 y = M.1 2 y := by
        intro y q1 q2 q3
        rw [f3.2.1 y q1]
        refine F.2.1 y ?_
        cases q : [13, 14].contains y with
        | false => rfl
        | true =>
          have := List.contains_iff_mem.mp q
          simp only [List.mem_cons, List.not_mem_nil, or_false] at this
          omega
      have d1 : ∀ k, k ≠ 2 → k ≠ 3 → N3.1 k = M.1 k := fun k q1 q2 => by rw [f3.1 k q1 q2, F.1 k q1]
      refine ⟨rfl, rfl, ⟨fun k hk => d1 k (by omega) (by omega), by rw [f3.2.2, F.2.2]⟩, ⟨?_, h8.2⟩, rdX_e (d2 6 (by decide) (by decide) (by decide)) (d2 7 (by decide) (by decide) (by decide)) (d1 1 (by decide) (by decide)) l1, ⟨?_, l2.2⟩, ?_, ⟨?_, ?_, ?_, ?_, ?_⟩, ?_⟩
      · rw [d2 8 (by decide) (by decide) (by decide)]; exact h8.1
      · rw [d2 19 (by decide) (by decide) (by decide)]; exact l2.1
      · rw [d2 16 (by decide) (by decide) (by decide)]; exact l3
      · rw [d2 10 (by decide) (by decide) (by decide)]; exact x1
      · rw [d2 11 (by decide) (by decide) (by decide)]; exact x2
      · rw [f3.2.1 13 (by decide)]; exact c13
      · rw [d2 15 (by decide) (by decide) (by decide)]; exact x4
      · rw [d1 6 (by decide) (by decide)]; exact x5
      · rw [es, hm]
        refine ⟨o3, ?_, ?_, ?_⟩
        · show N3.1 2 14 = nI (askN b.2.1)
          rw [f3.2.1 14 (by decide)]; exact a14
        · intro j hj
          have hj : j < cxD c - 1 := hj
          rw [d1 7 (by decide) (by decide)]
          exact g3 j (by omega)
        · intro l hl ht
          exact rtK_e hl (by rw [d1 5 (by decide) (by decide)]) (fun j _ => by rw [d1 4 (by decide) (by decide)]) (g4 l hl ht)
end CRK
