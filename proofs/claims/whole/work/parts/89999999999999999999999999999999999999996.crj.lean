/-! circuit: the class begins a block -/
section CRL
variable {d : Nat} {M : mm_M} {T : Nat → Nat} {t W : Nat} {c : CX} {s : GS}
theorem ask_a : ∀ x, x < 16 → ∀ y, y < 16 → ∀ q, q < 4 → (x + 16 * y) ||| 2 ^ q = (x ||| 2 ^ q) + 16 * y ∧ (x + 16 * y) ||| (16 * 2 ^ q) = x + 16 * (y ||| 2 ^ q) := by decide +kernel
theorem sh_4 : ∀ q, q < 4 → (1 : Int32) <<< (nI q &&& 31) = nI (2 ^ q) ∧ (16 : Int32) <<< (nI q &&& 31) = nI (16 * 2 ^ q) := by decide +kernel
set_option maxRecDepth 200000 in
theorem ct_opB {k h i : Nat} (hk : (h = 42 ∧ k = 14) ∨ (h = 63 ∧ k = 12) ∨ (h = 33 ∧ k = 13)) (hL : CLr M T t W c s) (hV : gIv W c s) (h8 : M.1 2 8 = nI i ∧ i ≤ t) : am_M (d + 2) false nm_X5_openBlock [aR 2, aI (nI h)] M (stY M T t W c s (blE T t c k i)) := by
  obtain ⟨l1, l2, l3, ⟨x1, x2, x3, x4, x5⟩, g1, g2, g3, g4⟩ := hL
  obtain ⟨v1, v2, v3, v4, v5, v6, v7, v8, v9⟩ := hV
  have e42 : nI h = 42 ↔ k = 14 := by
    rcases hk with ⟨rfl, rfl⟩ | ⟨rfl, rfl⟩ | ⟨rfl, rfl⟩
    · exact ⟨fun _ => rfl, fun _ => rfl⟩
    · exact ⟨fun z => absurd z (by decide), fun z => absurd z (by decide)⟩
    · exact ⟨fun z => absurd z (by decide), fun z => absurd z (by decide)⟩
  have e63 : nI h = 63 ↔ k = 12 := by
    rcases hk with ⟨rfl, rfl⟩ | ⟨rfl, rfl⟩ | ⟨rfl, rfl⟩
    · exact ⟨fun z => absurd z (by decide), fun z => absurd z (by decide)⟩
    · exact ⟨fun _ => rfl, fun _ => rfl⟩
    · exact ⟨fun z => absurd z (by decide), fun z => absurd z (by decide)⟩
  have k3 : k = 14 ∨ k = 12 ∨ k = 13 := by omega
  clear hk
  have aw := ask_w v6
  refine ⟨rfl, rfl, rfl, fun X hX => ?_⟩
  have bad : ∀ (N : mm_M) (v2 v3 : Int32) (p' : Nat) (q : rdF M N), N.1 2 9 = nI p' → blE T t c k i = .inl p' → X 95 [some (aR 2), some (aI (nI h)), some (aI v2), some (aI v3)] [] N := by
    intro N v2 v3 p' hF h9 eE
    rw [eE] at hX
    refine am_run hX 2 _ _ _ _ ?_
    conv => whnf
    refine am_cq (ct_brok (d := d) h9) ?_
    rintro r2 N2 ⟨rfl, f2, e2⟩
    refine ⟨_, rfl, ?_⟩
    refine am_run hX 1 _ _ _ _ ?_
    conv => whnf
    exact ⟨rfl, rfl, e2, rdF_t hF (rdF_2 f2)⟩
  -- behind [
  have good : ∀ (N : mm_M) (ch i' : Nat) (v3 : Int32), blOk k ch = true → cxD c < 8 → r2F [8, 9, 16] M N → N.1 2 8 = nI i' → i' ≤ t → N.1 2 16 = b01 (cxA c || decide (cxR c = 4)) → blE T t c k i = .inr (evB k (ch - 48), (i', cxF c, cxW c, cxD c + 1, cxR c, cxA c || decide (cxR c = 4), cxT c)) → X 100 [some (aR 2), some (aI (nI h)), some (aI (nI ch)), some (aI v3)] [] N := by
    intro N ch i' v3 ok D8 F n8 it n16 eE
    rw [eE] at hX
    have cw : 48 ≤ ch ∧ ch ≤ 57 ∧ (k ≠ 14 → ch ≤ 51) ∧ (k = 14 → 49 ≤ ch) := by
      unfold blOk at ok
      by_cases q : k = 14
      · rw [if_pos q] at ok
        obtain ⟨o1, o2⟩ := (Bool.and_eq_true _ _).mp ok
        have o1 := of_decide_eq_true o1
        have o2 := of_decide_eq_true o2
        exact ⟨by omega, o2, fun z => absurd q z, fun _ => o1⟩
      · rw [if_neg q] at ok
        obtain ⟨o1, o2⟩ := (Bool.and_eq_true _ _).mp ok
        have o1 := of_decide_eq_true o1
        have o2 := of_decide_eq_true o2
        exact ⟨o1, by omega, fun _ => o2, fun z => absurd z q⟩
    have ec : nI ch - 48 = nI (ch - 48) := by rw [show (48 : Int32) = nI 48 from rfl, nI_sub (by omega)]
    have m16 : (if k = 14 then ch - 48 else 1) < 16 := by split <;> omega
    have pushed : X 115 [some (aR 2), some (aI (nI h)), some (aI (nI ch)), some (aI v3)] [aI (nI (if k = 14 then ch - 48 else 1)), aR 2] N := by
      refine am_run hX 1 _ _ _ _ ?_
      conv => whnf
      refine am_c0 (ct_push (d := d) (M := N) (D := cxD c) (a := askN (gQ s)) (z := (gO s).length) m16 D8 (by rw [F.2.1 13 rfl]; exact x3) aw (by rw [F.2.1 14 rfl]; exact g2) (by rw [F.2.1 12 rfl]; exact g1.1)) ?_
      generalize hN1 : mm_i (mm_i N 7 _) 2 _ = N1
      have a1 : ∀ k, k ≠ 2 → k ≠ 7 → N1.1 k = N.1 k := fun k q1 q2 => by rw [← hN1, mm_ne _ _ _ _ q1, mm_ne _ _ _ _ q2]
      have a7 : N1.1 7 = upd (N.1 7) (cxD c) (nI ((if k = 14 then ch - 48 else 1) + 16 * askN (gQ s) + 4096 * min (gO s).length 301)) := by rw [← hN1, mm_ne _ _ _ _ (by decide), mm_i1]
      have a2 : N1.1 2 = upd (N.1 2) 13 (nI (cxD c + 1)) := by rw [← hN1, mm_i1]
      have a0 : N1.2 = N.2 := by rw [← hN1]; rfl
      -- the end
      have fin : ∀ K, r2F [14] N1 K → K.1 2 14 = nI (askN (askA (gQ s) k (ch - 48))) → X 150 [some (aR 2), some (aI (nI h)), some (aI (nI ch)), some (aI v3)] [] K := by
        intro K G k14
        refine am_run hX 2 _ _ _ _ ?_
        conv => whnf
        have es : clS (evB k (ch - 48)) c (i', cxF c, cxW c, cxD c + 1, cxR c, cxA c || decide (cxR c = 4), cxT c) s = (gO s, askA (gQ s) k (ch - 48), (fun j => if j = cxD c then (if k = 14 then ch - 48 else 1, gQ s, (gO s).length) else gS s j), gR s) := rfl
        have d2 : ∀ y, y ≠ 8 → y ≠ 9 → y ≠ 16 → y ≠ 13 → y ≠ 14 → K.1 2 y = M.1 2 y := by
          intro y q1 q2 q3 q4 q5
          rw [G.2.1 y (by simp [q5]), a2, up_ne q4]
          exact F.2.1 y (by simp [q1, q2, q3])
        have d1 : ∀ k, k ≠ 2 → k ≠ 7 → K.1 k = M.1 k := fun k q1 q2 => by rw [G.1 k q1, a1 k q1 q2, F.1 k q1]
        have d3 : ∀ y, y ≠ 13 → y ≠ 14 → K.1 2 y = N.1 2 y := fun y q4 q5 => by rw [G.2.1 y (by simp [q5]), a2, up_ne q4]
        refine ⟨rfl, rfl, ⟨fun k hk => d1 k (by omega) (by omega), by rw [G.2.2, a0, F.2.2]⟩, ⟨?_, it⟩, rdX_e (d2 6 (by decide) (by decide) (by decide) (by decide) (by decide)) (d2 7 (by decide) (by decide) (by decide) (by decide) (by decide)) (d1 1 (by decide) (by decide)) l1, ⟨?_, l2.2⟩, ?_, ⟨?_, ?_, ?_, ?_, ?_⟩, ?_⟩
        · rw [d3 8 (by decide) (by decide)]; exact n8
        · rw [d2 19 (by decide) (by decide) (by decide) (by decide) (by decide)]; exact l2.1
        · rw [d3 16 (by decide) (by decide)]; exact n16
        · rw [d2 10 (by decide) (by decide) (by decide) (by decide) (by decide)]; exact x1
        · rw [d2 11 (by decide) (by decide) (by decide) (by decide) (by decide)]; exact x2
        · rw [G.2.1 13 rfl, a2]; exact up_at
        · rw [d2 15 (by decide) (by decide) (by decide) (by decide) (by decide)]; exact x4
        · rw [d1 6 (by decide) (by decide)]; exact x5
        · rw [es]
          refine ⟨opC_f (d2 12 (by decide) (by decide) (by decide) (by decide) (by decide)) (d1 3 (by decide) (by decide)) g1, k14, ?_, ?_⟩
          · intro j hj
            have hj : j < cxD c + 1 := hj
            show K.1 7 j = nI (blN (if j = cxD c then (if k = 14 then ch - 48 else 1, gQ s, (gO s).length) else gS s j))
            rw [G.1 7 (by decide), a7, F.1 7 (by decide)]
            by_cases e : j = cxD c
            · rw [e, up_at, if_pos rfl]
              rfl
            · rw [up_ne e, if_neg e]
              exact g3 j (by omega)
          · intro l hl ht
            exact rtK_e hl (by rw [d1 5 (by decide) (by decide)]) (fun j _ => by rw [d1 4 (by decide) (by decide)]) (g4 l hl ht)
      refine am_run hX 3 _ _ _ _ ?_
      conv => whnf
      have n14 : N1.1 2 14 = nI (askN (gQ s)) := by rw [a2, up_ne (by decide), F.2.1 14 rfl]; exact g2
      by_cases k14 : k = 14
      · refine ⟨fun _ => fin N1 (r2F_r _ _) ?_, fun z => absurd (e42.mpr k14) z⟩
        rw [n14, k14]
        rfl
      · refine ⟨fun z => absurd (e42.mp z) k14, fun _ => ?_⟩
        have q4 : ch - 48 < 4 := by have := cw.2.2.1 k14; omega
        obtain ⟨s1, s2⟩ := sh_4 _ q4
        obtain ⟨o1, o2⟩ := ask_a _ v6.1 _ v6.2 _ q4
        refine am_run hX 6 _ _ _ _ ?_
        conv => whnf
        rw [n14]
        by_cases k12 : k = 12
        · refine ⟨fun z => absurd (e63.mpr k12) z, fun _ => ?_⟩
          refine am_run hX 8 _ _ _ _ ?_
          conv => whnf
          rw [ec, s1, nI_or]
          refine fin _ (r2F_u N1 _ rfl) ?_
          rw [r2_at]
          unfold askA
          rw [if_pos k12]
          show nI (askN (gQ s) ||| _) = nI (((gQ s).1 ||| _) + 16 * (gQ s).2)
          rw [← o1]
          rfl
        · refine ⟨fun _ => ?_, fun z => absurd (fun y => k12 (e63.mp y)) z⟩
          refine am_run hX 7 _ _ _ _ ?_
          conv => whnf
          rw [ec, s2, nI_or]
          refine fin _ (r2F_u N1 _ rfl) ?_
          rw [r2_at]
          unfold askA
          rw [if_neg k12, if_pos (by omega)]
          show nI (askN (gQ s) ||| _) = nI ((gQ s).1 + 16 * ((gQ s).2 ||| _))
          rw [← o2]
          rfl
    refine am_run hX 4 _ _ _ _ ?_
    conv => whnf
    by_cases k14 : k = 14
    · rw [if_pos k14] at pushed
      refine ⟨fun z => absurd (e42.mpr k14) z, fun _ => ?_⟩
      refine am_run hX 4 _ _ _ _ ?_
      conv => whnf
      rw [ec]
      exact pushed
    · rw [if_neg k14] at pushed
      refine ⟨fun _ => ?_, fun z => absurd (fun y => k14 (e42.mp y)) z⟩
      refine am_run hX 1 _ _ _ _ ?_
      conv => whnf
      exact pushed
  -- whether the digit fits
  have at72 : ∀ (N : mm_M), r2F [8, 9, 16] M N → rdX N T t → N.1 2 8 = nI (crA T t i) → N.1 2 9 = nI (crP T t i) → N.1 2 16 = b01 (cxA c || decide (cxR c = 4)) → X 72 [some (aR 2), some (aI (nI h)), some (aI (nI (crC T t i))), none] [aI (b01 (blOk k (crC T t i)))] N := by
    intro N F hX' n8 n9 n16
    refine am_run hX 3 _ _ _ _ ?_
    conv => whnf
    cases ok : blOk k (crC T t i) with
    | false =>
      have eE : blE T t c k i = .inl (crP T t i) := by
        unfold blE
        rw [ok, if_neg (by decide)]
      exact ⟨fun _ => bad N _ _ _ (rdF_2 F) n9 eE, fun z => absurd rfl z⟩
    | true =>
      refine ⟨fun z => absurd z (by decide), fun _ => ?_⟩
      refine am_run hX 2 _ _ _ _ ?_
      conv => whnf
      have ia := (cra_1 (T := T) h8.2).2.1
      refine am_cq (ct_take5 (d := d) hX' ia n8) ?_
      rintro r1 N1 ⟨rfl, f1, m8, m9⟩
      refine ⟨_, rfl, ?_⟩
      have G : r2F [8, 9, 16] M N1 := r2F_t F (r2F_w (by decide) f1)
      have ch := crc_d hX' (crA T t i)
      refine am_run hX 2 _ _ _ _ ?_
      conv => whnf
      rw [show (91 : Int32) = nI 91 from rfl, nI_eq (by omega) (by decide)]
      by_cases q : crC T t (crA T t i) = 91
      · refine ⟨fun z => absurd q z, fun _ => ?_⟩
        refine am_run hX 4 _ _ _ _ ?_
        conv => whnf
        rw [G.2.1 13 rfl, x3, show (8 : Int32) = nI 8 from rfl]
        by_cases D8 : cxD c < 8
        · refine ⟨fun _ => ?_, fun z => absurd (nI_lt D8 (by decide)) z⟩
          refine good N1 (crC T t i) _ _ ok D8 G m8 (cra_1 (T := T) ia).2.1 (by rw [f1.2.1 16 rfl]; exact n16) ?_
          unfold blE
          rw [ok, if_pos rfl, if_pos ⟨q, D8⟩]
        · have eE : blE T t c k i = .inl (crP T t (crA T t i)) := by
            unfold blE
            rw [ok, if_pos rfl, if_neg (fun z => D8 z.2)]
          exact ⟨fun z => absurd z (nI_nlt (by omega) (by omega)), fun _ => bad N1 _ _ _ (rdF_2 G) m9 eE⟩
      · have eE : blE T t c k i = .inl (crP T t (crA T t i)) := by
          unfold blE
          rw [ok, if_pos rfl, if_neg (fun z => q z.1)]
        exact ⟨fun _ => bad N1 _ _ _ (rdF_2 G) m9 eE, fun z => absurd q z⟩
  have body : ∀ N, r2F [16] M N → N.1 2 16 = b01 (cxA c || decide (cxR c = 4)) → X 24 [some (aR 2), some (aI (nI h)), none, none] [] N := by
    intro N F n16
    have hN := rdX_f ⟨rfl, rfl⟩ F l1
    refine am_run hX 2 _ _ _ _ ?_
    conv => whnf
    refine am_cq (ct_take5 (d := d) hN h8.2 (by rw [F.2.1 8 rfl]; exact h8.1)) ?_
    rintro r1 N1 ⟨rfl, f1, m8, m9⟩
    refine ⟨_, rfl, ?_⟩
    have ch := crc_d hN i
    have P := at72 N1 (r2F_t (r2F_w (by decide) F) (r2F_w (by decide) f1)) (rdX_f ⟨rfl, rfl⟩ f1 hN) m8 m9 (by rw [f1.2.1 16 rfl]; exact n16)
    refine am_run hX 4 _ _ _ _ ?_
    conv => whnf
    by_cases k14 : k = 14
    · refine ⟨fun z => absurd (e42.mpr k14) z, fun _ => ?_⟩
      refine am_run hX 3 _ _ _ _ ?_
      conv => whnf
      rw [show (49 : Int32) = nI 49 from rfl]
      by_cases q1 : crC T t i < 49
      · have e : blOk k (crC T t i) = false := by unfold blOk; rw [if_pos k14, decide_eq_false (show ¬ 49 ≤ crC T t i by omega)]; rfl
        rw [e] at P
        refine ⟨fun _ => ?_, fun z => absurd (nI_lt q1 (by decide)) z⟩
        refine am_run hX 2 _ _ _ _ ?_
        conv => whnf
        exact P
      · refine ⟨fun z => absurd z (nI_nlt (by omega) (by omega)), fun _ => ?_⟩
        refine am_run hX 3 _ _ _ _ ?_
        conv => whnf
        rw [show (57 : Int32) = nI 57 from rfl]
        by_cases q2 : 57 < crC T t i
        · have e : blOk k (crC T t i) = false := by unfold blOk; rw [if_pos k14, decide_eq_false (show ¬ crC T t i ≤ 57 by omega), Bool.and_false]
          rw [e] at P
          refine ⟨fun _ => ?_, fun z => absurd (nI_lt q2 (by omega)) z⟩
          refine am_run hX 2 _ _ _ _ ?_
          conv => whnf
          exact P
        · have e : blOk k (crC T t i) = true := by unfold blOk; rw [if_pos k14, decide_eq_true (show 49 ≤ crC T t i by omega), decide_eq_true (show crC T t i ≤ 57 by omega)]; rfl
          rw [e] at P
          refine ⟨fun z => absurd z (nI_nlt (by omega) (by decide)), fun _ => ?_⟩
          refine am_run hX 2 _ _ _ _ ?_
          conv => whnf
          exact P
    · refine ⟨fun _ => ?_, fun z => absurd (fun y => k14 (e42.mp y)) z⟩
      refine am_run hX 3 _ _ _ _ ?_
      conv => whnf
      rw [show (48 : Int32) = nI 48 from rfl]
      by_cases q1 : crC T t i < 48
      · have e : blOk k (crC T t i) = false := by unfold blOk; rw [if_neg k14, decide_eq_false (show ¬ 48 ≤ crC T t i by omega)]; rfl
        rw [e] at P
        refine ⟨fun _ => ?_, fun z => absurd (nI_lt q1 (by decide)) z⟩
        refine am_run hX 1 _ _ _ _ ?_
        conv => whnf
        exact P
      · refine ⟨fun z => absurd z (nI_nlt (by omega) (by omega)), fun _ => ?_⟩
        refine am_run hX 3 _ _ _ _ ?_
        conv => whnf
        rw [show (51 : Int32) = nI 51 from rfl]
        by_cases q2 : 51 < crC T t i
        · have e : blOk k (crC T t i) = false := by unfold blOk; rw [if_neg k14, decide_eq_false (show ¬ crC T t i ≤ 51 by omega), Bool.and_false]
          rw [e] at P
          refine ⟨fun _ => ?_, fun z => absurd (nI_lt q2 (by omega)) z⟩
          refine am_run hX 1 _ _ _ _ ?_
          conv => whnf
          exact P
        · have e : blOk k (crC T t i) = true := by unfold blOk; rw [if_neg k14, decide_eq_true (show 48 ≤ crC T t i by omega), decide_eq_true (show crC T t i ≤ 51 by omega)]; rfl
          rw [e] at P
          refine ⟨fun z => absurd z (nI_nlt (by omega) (by decide)), fun _ => ?_⟩
          refine am_run hX 2 _ _ _ _ ?_
          conv => whnf
          exact P
  have put : ∀ (v : Int32), v = b01 (cxA c || decide (cxR c = 4)) → X 21 [some (aR 2), some (aI (nI h)), none, none] [aI v, aR 2] M := by
    intro v hv
    refine am_run hX 1 _ _ _ _ ?_
    conv => whnf
    refine ⟨by rw [hv]; cases (cxA c || decide (cxR c = 4)) <;> exact ⟨rfl, rfl⟩, ?_⟩
    refine body _ (r2F_u M _ rfl) ?_
    rw [r2_at]
    exact hv
  have iff := ahd (c := c) l3 x4 v4
  refine am_run hX 4 _ _ _ _ ?_
  conv => whnf
  by_cases q : M.1 2 16 = 0
  · refine ⟨fun z => absurd q z, fun _ => ?_⟩
    refine am_run hX 4 _ _ _ _ ?_
    conv => whnf
    by_cases q2 : M.1 2 15 = -1
    · have e := iff.mp (Or.inr q2)
      refine ⟨fun z => absurd q2 z, fun _ => ?_⟩
      refine am_run hX 2 _ _ _ _ ?_
      conv => whnf
      exact put 1 (by rw [e]; rfl)
    · have e : (cxA c || decide (cxR c = 4)) = false := by
        cases hq : (cxA c || decide (cxR c = 4)) with
        | false => rfl
        | true => exact absurd (iff.mpr hq) (fun z => z.elim (fun y => y q) q2)
      refine ⟨fun _ => ?_, fun z => absurd q2 z⟩
      refine am_run hX 1 _ _ _ _ ?_
      conv => whnf
      exact put 0 (by rw [e]; rfl)
  · have e := iff.mp (Or.inl q)
    refine ⟨fun _ => ?_, fun z => absurd q z⟩
    refine am_run hX 2 _ _ _ _ ?_
    conv => whnf
    exact put 1 (by rw [e]; rfl)
end CRL
