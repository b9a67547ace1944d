/-! circuit: the class reads a ROUTINE or a USE -/
theorem ix_L : ∀ c, c < 127 → am_ixF (nI c) xp_l2 0 = if 97 ≤ c ∧ c ≤ 100 then nI (c - 97) else -1 := by decide +kernel
theorem ix_G : ∀ c, c < 127 → c ≠ 119 → am_ixF (nI c) xp_l3 0 = if kcN c = 99 then -1 else nI (kcN c) := by decide +kernel
/-- what more is always so -/
def gI2 (c : CX) (s : GS) : Prop := (cxF c = 0 → (∀ l, l < 4 → cxT c l ≠ 0 → ∀ x ∈ gR s l, rgX (cxT c l) x) ∧ (cxR c ≠ 4 → ∀ x ∈ gO s, rgX (cxW c) x)) ∧ (cxR c = 4 → cxA c = false → gO s = [] ∧ gQ s = (0, 0)) ∧ (cxR c ≠ 4 → cxW c ≤ 4 ∧ gQ s = (0, 0) ∧ ∀ j, j < cxD c → (gS s j).2.1 = (0, 0))
theorem msk_n : ∀ (cs : List Nat) (a : Nat), a ≤ cs.foldl (fun a w => a ||| 2 ^ w) a
  | [], _ => Nat.le_refl _
  | w :: cs, a => Nat.le_trans Nat.left_le_or (msk_n cs (a ||| 2 ^ w))
theorem msk_0 {cs : List Nat} (h : mskL cs = 0) : cs = [] := by
  cases cs with
  | nil => rfl
  | cons w cs =>
    have a : (0 ||| 2 ^ w) ≤ mskL (w :: cs) := msk_n cs _
    rw [Nat.zero_or] at a
    have : 0 < 2 ^ w := Nat.pow_pos (by decide)
    omega
section CRP
variable {d : Nat} {M M0 : mm_M} {T : Nat → Nat} {t W : Nat} {c : CX} {s : GS}
set_option maxRecDepth 200000 in
theorem ct_rou {i p f sn : Nat} {cs : List Nat} {bk : Bool} (hL : CLr M0 T t W c s) (hV : gIv W c s) (hV2 : gI2 c s) (F0 : r2F [8, 9, 17, 18, 19] M0 M) (hI : rsI M T t i p (cxW c) f sn) (h17 : M.1 2 17 = nI (mskL cs + bckN bk)) (hl : mskL cs < 2 ^ 10) (hcs : f = 0 → ∀ w ∈ cs, w < cxW c) (hf : f = 0 → cxF c = 0) : am_M (d + 6) false nm_X5_readRoutineOrUse [aR 2] M (stY M0 T t W c s (atE T t c p i f sn cs bk)) := by
  obtain ⟨l1, l2, l3, ⟨x1, x2, x3, x4, x5⟩, g1, g2, g3, g4⟩ := hL
  obtain ⟨v1, v2, v3, v4, v5, v6, v7, v8, v9⟩ := hV
  have p4 : p ≤ 400 := Nat.le_trans hI.2.2.1.2 hI.1.1
  refine ⟨rfl, rfl, rfl, fun X hX => ?_⟩
  generalize hz : atE T t c p i f sn cs bk = z at hX
  refine am_run hX 5 _ _ _ _ ?_
  conv => whnf
  rw [hI.2.2.1.1]
  refine am_run hX 1 _ _ _ _ ?_
  conv => whnf
  refine am_cq (rs_take (d := d + 4) hI) ?_
  rintro r1 N1 ⟨rfl, f1, i1⟩
  refine ⟨_, rfl, ?_⟩
  have c1 := crc_d hI.1 i
  refine am_run hX 1 _ _ _ _ ?_
  conv => whnf
  refine ⟨by omega, ?_⟩
  conv => whnf
  rw [ix_L _ c1]
  have F1 : r2F [8, 9, 17, 18, 19] M0 N1 := r2F_t F0 (r2F_w (by decide) f1)
  have bad : ∀ (N : mm_M) (i' p' f' sn' : Nat) (pc : Nat) (L : am_L), (pc = 19 ∨ pc = 36 ∨ pc = 113) → (∃ a1 a2 a3, L = [some (aR 2), a1, a2, a3]) → rdF M0 N → rsI N T t i' p' (cxW c) f' sn' → z = .inl p' → X pc L [] N := by
    rintro N i' p' f' sn' pc L hpc ⟨a1, a2, a3, rfl⟩ hF hN eE
    rw [eE] at hX
    rcases hpc with rfl | rfl | rfl
    all_goals
      refine am_run hX 2 _ _ _ _ ?_
      conv => whnf
      refine am_cq (rs_bad (d := d + 4) hN) ?_
      rintro r2 N2 ⟨rfl, f2, e2⟩
      refine ⟨_, rfl, ?_⟩
      refine am_run hX 1 _ _ _ _ ?_
      conv => whnf
      exact ⟨rfl, rfl, e2, rdF_t hF (rdF_2 f2)⟩
  by_cases hn : 97 ≤ crC T t i ∧ crC T t i ≤ 100
  · rw [if_pos hn]
    generalize hl4 : crC T t i - 97 = l at hz
    have l4 : l < 4 := by omega
    refine am_run hX 3 _ _ _ _ ?_
    conv => whnf
    refine ⟨fun _ => ?_, fun y => absurd (nI_le (a := 0) (b := l) (by omega) (by omega)) y⟩
    refine am_run hX 2 _ _ _ _ ?_
    conv => whnf
    refine am_cq (rs_take (d := d + 4) i1) ?_
    rintro r2 N2 ⟨rfl, f2, i2⟩
    refine ⟨_, rfl, ?_⟩
    have c2 := crc_d i1.1 (crA T t i)
    have F2 : r2F [8, 9, 17, 18, 19] M0 N2 := r2F_t F1 (r2F_w (by decide) f2)
    have G2 : r2F [8, 9] M N2 := r2F_t f1 f2
    refine am_run hX 3 _ _ _ _ ?_
    conv => whnf
    refine am_c1 (ct_isD5 (d := d + 4) c2) ?_
    refine am_run hX 1 _ _ _ _ ?_
    conv => whnf
    cases hd : isDg (crC T t (crA T t i)) with
    | false =>
      have eE : z = .inl (crP T t (crA T t i)) := by
        rw [← hz]
        unfold atE
        rw [if_pos hn, hd, if_neg (by decide)]
      exact ⟨fun y => absurd rfl y, fun _ => bad N2 _ _ _ _ 36 _ (by decide) ⟨_, _, _, rfl⟩ (rdF_2 F2) i2 eE⟩
    | true =>
      refine ⟨fun _ => ?_, fun y => absurd (by decide) y⟩
      obtain ⟨e1, e2⟩ := isDg_w hd
      generalize hi3 : crA T t (crA T t i) = i3 at *
      generalize hch : crC T t (crA T t i) = ch at *
      refine am_run hX 2 _ _ _ _ ?_
      conv => whnf
      refine am_c1 (ct_peek (d := d + 4) i2.1 i2.2.1.2 i2.2.1.1) ?_
      have c3 := crc_d i2.1 i3
      refine am_run hX 2 _ _ _ _ ?_
      conv => whnf
      rw [show (91 : Int32) = nI 91 from rfl, nI_eq (by omega) (by decide)]
      have m17 : N2.1 2 17 = nI (mskL cs + bckN bk) := by rw [G2.2.1 17 rfl]; exact h17
      by_cases q : crC T t i3 = 91
      · refine ⟨fun _ => ?_, fun y => absurd q y⟩
        refine am_run hX 2 _ _ _ _ ?_
        conv => whnf
        refine am_cq (rs_take (d := d + 4) i2) ?_
        rintro r3 N3 ⟨rfl, f3, i3'⟩
        refine ⟨_, rfl, ?_⟩
        have F3 : r2F [8, 9, 17, 18, 19] M0 N3 := r2F_t F2 (r2F_w (by decide) f3)
        have n17 : N3.1 2 17 = nI (mskL cs + bckN bk) := by rw [f3.2.1 17 rfl]; exact m17
        have no : ¬ (cs = [] ∧ bk = false ∧ cxR c = 4 ∧ cxA c = false ∧ 49 ≤ ch ∧ ch ≤ 52) → X 113 [some (aR 2), some (aI (nI p)), some (aI (nI l)), some (aI (nI ch))] [] N3 := by
          intro hno
          refine bad N3 _ _ _ _ 113 _ (by decide) ⟨_, _, _, rfl⟩ (rdF_2 F3) i3' ?_
          rw [← hz]
          unfold atE
          rw [if_pos hn, hi3, hch, hd, if_pos rfl, if_pos q, if_neg hno]
        refine am_run hX 4 _ _ _ _ ?_
        conv => whnf
        rw [n17]
        by_cases b0 : mskL cs + bckN bk = 0
        · rw [b0]
          refine ⟨fun y => absurd rfl y, fun _ => ?_⟩
          have cs0 : cs = [] := msk_0 (by omega)
          have bk0 : bk = false := by
            cases hb : bk with
            | false => rfl
            | true =>
              rw [hb] at b0
              have b0 : mskL cs + 65536 = 0 := b0
              omega
          refine am_run hX 4 _ _ _ _ ?_
          conv => whnf
          rw [F3.2.1 15 rfl, x4]
          by_cases r4 : cxR c = 4
          · rw [if_pos r4]
            refine ⟨fun y => absurd rfl y, fun _ => ?_⟩
            refine am_run hX 3 _ _ _ _ ?_
            conv => whnf
            rw [F3.2.1 16 rfl, l3]
            cases ah : cxA c with
            | true => exact ⟨fun _ => no (fun y => absurd y.2.2.2.1 (by rw [ah]; decide)), fun y => absurd (by decide) y⟩
            | false =>
              refine ⟨fun y => absurd rfl y, fun _ => ?_⟩
              refine am_run hX 3 _ _ _ _ ?_
              conv => whnf
              rw [show (49 : Int32) = nI 49 from rfl]
              by_cases q1 : ch < 49
              · exact ⟨fun _ => no (fun y => by have := y.2.2.2.2.1; omega), fun y => absurd (nI_lt q1 (by decide)) y⟩
              · refine ⟨fun y => absurd y (nI_nlt (by omega) (by omega)), fun _ => ?_⟩
                refine am_run hX 3 _ _ _ _ ?_
                conv => whnf
                rw [show (52 : Int32) = nI 52 from rfl]
                by_cases q2 : ch ≤ 52
                · refine ⟨fun _ => ?_, fun y => absurd (nI_le q2 (by decide)) y⟩
                  -- a ROUTINE
                  have D0 : cxD c = 0 := v9 r4 ah
                  have ez : z = .inr (evR' l (ch - 48), (crA T t i3, (if cxT c l = 0 then f else ntF f p 4), ch - 48, cxD c + 1, l, cxA c, cxT c)) := by
                    rw [← hz]
                    unfold atE
                    rw [if_pos hn, hi3, hch, hd, if_pos rfl, if_pos q, if_pos ⟨cs0, bk0, r4, ah, by omega, q2⟩, hl4]
                  have ed : nI ch - 48 = nI (ch - 48) := by rw [show (48 : Int32) = nI 48 from rfl, nI_sub (by omega)]
                  have last : ∀ (N : mm_M) (f' : Nat), f' = (if cxT c l = 0 then f else ntF f p 4) → r2F [8, 9, 17, 18, 19] M0 N → (N.1 2 8 = nI (crA T t i3) ∧ crA T t i3 ≤ t) → (N.1 2 19 = nI f' ∧ f' < 2 ^ 20) → X 133 [some (aR 2), some (aI (nI p)), some (aI (nI l)), some (aI (nI ch))] [] N := by
                    intro N f' ef F n8 n19
                    rw [ez] at hX
                    refine am_run hX 3 _ _ _ _ ?_
                    conv => whnf
                    refine am_c0 (ct_push (d := d + 4) (M := N) (m := 0) (D := cxD c) (a := askN (gQ s)) (z := (gO s).length) (by decide) (by omega) (by rw [F.2.1 13 rfl]; exact x3) (ask_w v6) (by rw [F.2.1 14 rfl]; exact g2) (by rw [F.2.1 12 rfl]; exact g1.1)) ?_
                    generalize hK1 : mm_i (mm_i N 7 _) 2 _ = K1
                    have a1 : ∀ k, k ≠ 2 → k ≠ 7 → K1.1 k = N.1 k := fun k q1 q2 => by rw [← hK1, mm_ne _ _ _ _ q1, mm_ne _ _ _ _ q2]
                    have a7 : K1.1 7 = upd (N.1 7) (cxD c) (nI (0 + 16 * askN (gQ s) + 4096 * min (gO s).length 301)) := by rw [← hK1, mm_ne _ _ _ _ (by decide), mm_i1]
                    have a2 : K1.1 2 = upd (N.1 2) 13 (nI (cxD c + 1)) := by rw [← hK1, mm_i1]
                    have a0 : K1.2 = N.2 := by rw [← hK1]; rfl
                    refine am_run hX 3 _ _ _ _ ?_
                    conv => whnf
                    generalize hK2 : mm_i K1 2 _ = K2
                    have E2 : r2F [15] K1 K2 := by rw [← hK2]; exact r2F_u K1 _ rfl
                    have k15 : K2.1 2 15 = nI l := by rw [← hK2]; exact r2_at _ _ _
                    refine am_run hX 5 _ _ _ _ ?_
                    conv => whnf
                    rw [ed]
                    generalize hK3 : mm_i K2 2 _ = K3
                    have E3 : r2F [11] K2 K3 := by rw [← hK3]; exact r2F_u K2 _ rfl
                    have k11 : K3.1 2 11 = nI (ch - 48) := by rw [← hK3]; exact r2_at _ _ _
                    have E : r2F [11, 15] K1 K3 := r2F_t (r2F_w (by decide) E2) (r2F_w (by decide) E3)
                    refine am_run hX 2 _ _ _ _ ?_
                    conv => whnf
                    have d3 : ∀ y, y ≠ 11 → y ≠ 13 → y ≠ 15 → K3.1 2 y = N.1 2 y := fun y q4 q5 q6 => by rw [E.2.1 y (by simp [q4, q6]), a2, up_ne q5]
                    have d1 : ∀ k, k ≠ 2 → k ≠ 7 → K3.1 k = M0.1 k := fun k q1 q2 => by rw [E.1 k q1, a1 k q1 q2, F.1 k q1]
                    have d2 : ∀ y, y ≠ 11 → y ≠ 13 → y ≠ 15 → [8, 9, 17, 18, 19].contains y = false → K3.1 2 y = M0.1 2 y := fun y q4 q5 q6 q7 => by rw [d3 y q4 q5 q6, F.2.1 y q7]
                    have es : clS (evR' l (ch - 48)) c (crA T t i3, (if cxT c l = 0 then f else ntF f p 4), ch - 48, cxD c + 1, l, cxA c, cxT c) s = (gO s, gQ s, (fun j => if j = cxD c then (0, gQ s, (gO s).length) else gS s j), gR s) := rfl
                    refine ⟨rfl, rfl, ⟨fun k hk => d1 k (by omega) (by omega), by rw [E.2.2, a0, F.2.2]⟩, ⟨?_, n8.2⟩, rdX_e (d2 6 (by decide) (by decide) (by decide) rfl) (d2 7 (by decide) (by decide) (by decide) rfl) (d1 1 (by decide) (by decide)) l1, ⟨?_, ?_⟩, ?_, ⟨?_, k11, ?_, ?_, ?_⟩, ?_⟩
                    · rw [d3 8 (by decide) (by decide) (by decide)]; exact n8.1
                    · rw [d3 19 (by decide) (by decide) (by decide)]
                      show _ = nI (if cxT c l = 0 then f else ntF f p 4)
                      rw [← ef]
                      exact n19.1
                    · show (if cxT c l = 0 then f else ntF f p 4) < _
                      rw [← ef]
                      exact n19.2
                    · rw [d2 16 (by decide) (by decide) (by decide) rfl]; exact l3
                    · rw [d2 10 (by decide) (by decide) (by decide) rfl]; exact x1
                    · rw [E.2.1 13 rfl, a2]; exact up_at
                    · show _ = if l = 4 then -1 else nI l
                      rw [if_neg (by omega), E3.2.1 15 rfl]
                      exact k15
                    · rw [d1 6 (by decide) (by decide)]; exact x5
                    · rw [es]
                      refine ⟨opC_f (d2 12 (by decide) (by decide) (by decide) rfl) (d1 3 (by decide) (by decide)) g1, ?_, ?_, ?_⟩
                      · show K3.1 2 14 = nI (askN (gQ s))
                        rw [d2 14 (by decide) (by decide) (by decide) rfl]; exact g2
                      · intro j hj
                        have hj : j < cxD c + 1 := hj
                        show K3.1 7 j = nI (blN (if j = cxD c then (0, gQ s, (gO s).length) else gS s j))
                        rw [E.1 7 (by decide), a7, F.1 7 (by decide)]
                        have e : j = cxD c := by omega
                        rw [e, up_at, if_pos rfl]
                        rfl
                      · intro l' hl' ht
                        exact rtK_e hl' (by rw [d1 5 (by decide) (by decide)]) (fun j _ => by rw [d1 4 (by decide) (by decide)]) (g4 l' hl' ht)
                  refine am_run hX 4 _ _ _ _ ?_
                  conv => whnf
                  refine ⟨vp_in_nI (by show l < 4; omega) (by decide), ?_⟩
                  rw [nI_clamp (n := l) (by omega), F3.1 6 (by decide), x5 l l4]
                  refine am_run hX 1 _ _ _ _ ?_
                  conv => whnf
                  by_cases w0 : cxT c l = 0
                  · rw [w0]
                    refine ⟨fun _ => last N3 f (by rw [if_pos w0]) F3 i3'.2.1 i3'.2.2.2.2.1, fun y => absurd rfl y⟩
                  · have t4 := v5 l
                    refine ⟨fun y => absurd y (nI_ne0 (n := cxT c l) (by omega) (by omega)), fun _ => ?_⟩
                    refine am_run hX 4 _ _ _ _ ?_
                    conv => whnf
                    refine am_cq (ct_note5 (d := d + 4) (M := N3) (k := 4) (p := p) i3'.2.2.2.2.1.2 (by omega) (by decide) i3'.2.2.2.2.1.1) ?_
                    rintro r5 N5 ⟨rfl, f5, e5⟩
                    refine ⟨none, rfl, ?_⟩
                    refine last N5 (ntF f p 4) (by rw [if_neg w0]) (r2F_t F3 (r2F_w (by decide) f5)) ⟨by rw [f5.2.1 8 rfl]; exact i3'.2.1.1, i3'.2.1.2⟩ ⟨e5, ntF_l i3'.2.2.2.2.1.2 p4 (by decide)⟩
                · exact ⟨fun y => absurd y (nI_ge (a := 52) (b := ch) (by omega) (by omega)), fun _ => no (fun y => q2 y.2.2.2.2.2)⟩
          · rw [if_neg r4]
            exact ⟨fun _ => no (fun y => r4 y.2.2.1), fun y => absurd (nI_nm (by omega)) y⟩
        · have b1 : mskL cs + bckN bk < 2 ^ 20 := by unfold bckN; split <;> omega
          refine ⟨fun _ => no (fun y => b0 (by rw [y.1, y.2.1]; rfl)), fun y => absurd (nI_ne0 (n := mskL cs + bckN bk) (by omega) (by omega)) y⟩
      · -- a USE
        refine ⟨fun y => absurd y q, fun _ => ?_⟩
        have ez : z = usE T t c l p (ch - 48) (crP T t (crA T t i)) i3 f sn cs bk := by
          rw [← hz]
          unfold atE
          rw [if_pos hn, hi3, hch, hd, if_pos rfl, if_neg q, hl4]
        refine am_run hX 5 _ _ _ _ ?_
        conv => whnf
        refine am_cq (ct_rdU (d := d + 2) (M := N2) (c := c) (l := l) (sg := p) (dc := ch) l4 p4 hd (by rw [F2.1 6 (by decide)]; exact x5 l l4) (v5 l) i2 (by rw [F2.2.1 16 rfl]; exact l3) (by rw [F2.2.1 15 rfl]; exact x4) v4) ?_
        unfold usE at ez
        generalize hQ : usQ T t c l p (ch - 48) (crP T t (crA T t i)) i3 f sn = Q at *
        rintro r3 N3 ⟨f3, e3⟩
        by_cases ok : crC T t Q.1 = 59 ∧ (cxT c l = 0 ∨ Q.2.2.length = cxT c l)
        · rw [if_pos ok] at e3 ez
          obtain ⟨rfl, n8, n19, n16, nm, h0⟩ := e3
          refine ⟨_, rfl, ?_⟩
          refine am_run hX 1 _ _ _ _ ?_
          conv => whnf
          refine ⟨fun y => absurd y (by decide), fun _ => ?_⟩
          refine am_run hX 3 _ _ _ _ ?_
          conv => whnf
          have n14 : N3.1 2 14 = nI (askN (gQ s)) := by rw [f3.2.1 14 rfl, F2.2.1 14 rfl]; exact g2
          have nO : opC N3 (gO s) := opC_f (by rw [f3.2.1 12 rfl, F2.2.1 12 rfl]) (by rw [f3.1 3 (by decide) (by decide), F2.1 3 (by decide)]) g1
          refine am_cq (ct_layU (d := d + 2) (M := N3) (l := l) (h := mskL cs) (f := Q.2.1) (K := cxT c l) (bk := bk) (O := gO s) (R := gR s l) (a := gQ s) (g := fun j => Q.2.2.getD j 0) l4 n19 n14 v6 (by rw [f3.2.1 17 rfl]; exact m17) nO (fun y0 => ?_)) ?_
          · obtain ⟨y1, y2, y3⟩ := h0 y0
            have ln : Q.2.2.length = cxT c l := ok.2.resolve_left y2
            refine ⟨msk_l cs 0 (by decide) (fun y hy => by have := hcs y1 y hy; omega), ?_, v5 l, (hV2.1 (hf y1)).1 l l4 y2, fun j hj => ⟨nm j (by omega), ?_⟩⟩
            · exact rtK_e l4 (by rw [f3.1 5 (by decide) (by decide), F2.1 5 (by decide)]) (fun j _ => by rw [f3.1 4 (by decide) (by decide), F2.1 4 (by decide)]) (g4 l l4 y2)
            · show Q.2.2.getD j 0 < 8
              have hj2 : j < Q.2.2.length := by omega
              rw [List.getD_eq_getElem?_getD, List.getElem?_eq_getElem hj2]
              have := y3 _ (List.getElem_mem hj2)
              show Q.2.2[j] < 8
              omega
          rintro r4 N4 ⟨rfl, f4, o4⟩
          refine ⟨_, rfl, ?_⟩
          refine am_run hX 1 _ _ _ _ ?_
          conv => whnf
          refine ⟨fun y => absurd y (by decide), fun _ => ?_⟩
          rw [ez] at hX
          refine am_run hX 3 _ _ _ _ ?_
          conv => whnf
          have d1 : ∀ k, k ≠ 2 → k ≠ 3 → k ≠ 8 → N4.1 k = M0.1 k := fun k q1 q2 q3 => by rw [f4.1 k q1 q2, f3.1 k q1 q3, F2.1 k q1]
          have d2 : ∀ y, y ≠ 12 → [8, 9, 16, 18, 19].contains y = false → [8, 9, 17, 18, 19].contains y = false → N4.1 2 y = M0.1 2 y := fun y q1 q2 q3 => by rw [f4.2.1 y q1, f3.2.1 y q2, F2.2.1 y q3]
          have es : clS (evU l bk cs Q.2.2) c (cxS c (crA T t Q.1) Q.2.1) s = (if Q.2.1 = 0 then gO s ++ ((ivL bk (gR s l)).map (rnX (fun j => Q.2.2.getD j 0) (mskL cs))).map (adA (gQ s)) else gO s, gQ s, gS s, gR s) := rfl
          refine ⟨rfl, rfl, ⟨fun k hk => d1 k (by omega) (by omega) (by omega), by rw [f4.2.2, f3.2.2, F2.2.2]⟩, ⟨?_, n8.2⟩, rdX_e (d2 6 (by decide) rfl rfl) (d2 7 (by decide) rfl rfl) (d1 1 (by decide) (by decide) (by decide)) l1, ⟨?_, n19.2⟩, ?_, ⟨?_, ?_, ?_, ?_, ?_⟩, ?_⟩
          · rw [f4.2.1 8 (by decide)]; exact n8.1
          · rw [f4.2.1 19 (by decide)]; exact n19.1
          · rw [f4.2.1 16 (by decide)]; exact n16
          · rw [d2 10 (by decide) rfl rfl]; exact x1
          · rw [d2 11 (by decide) rfl rfl]; exact x2
          · rw [d2 13 (by decide) rfl rfl]; exact x3
          · rw [d2 15 (by decide) rfl rfl]; exact x4
          · rw [d1 6 (by decide) (by decide) (by decide)]; exact x5
          · rw [es]
            refine ⟨o4, ?_, ?_, ?_⟩
            · show N4.1 2 14 = nI (askN (gQ s))
              rw [d2 14 (by decide) rfl rfl]; exact g2
            · rw [d1 7 (by decide) (by decide) (by decide)]; exact g3
            · intro l' hl' ht
              exact rtK_e hl' (by rw [d1 5 (by decide) (by decide) (by decide)]) (fun j _ => by rw [d1 4 (by decide) (by decide) (by decide)]) (g4 l' hl' ht)
        · rw [if_neg ok] at e3 ez
          obtain ⟨rfl, e4⟩ := e3
          refine ⟨_, rfl, ?_⟩
          refine am_run hX 1 _ _ _ _ ?_
          conv => whnf
          refine ⟨fun _ => ?_, fun y => absurd rfl y⟩
          rw [ez] at hX
          refine am_run hX 2 _ _ _ _ ?_
          conv => whnf
          exact ⟨rfl, rfl, e4, rdF_t (rdF_2 F2) ⟨fun k hk => f3.1 k (by omega) (by omega), f3.2.2⟩⟩
  · rw [if_neg hn]
    have eE : z = .inl (crP T t i) := by
      rw [← hz]
      unfold atE
      rw [if_neg hn]
    refine am_run hX 3 _ _ _ _ ?_
    conv => whnf
    exact ⟨fun y => absurd y (by decide), fun _ => bad N1 _ _ _ _ 19 _ (by decide) ⟨_, _, _, rfl⟩ (rdF_2 F1) i1 eE⟩
end CRP
