/-! circuit: the class reads m and r; CONTROLS -/
/-- what is known ahead of WIRES -/
def rsJ (M : mm_M) (T : Nat → Nat) (t i p fr f : Nat) : Prop := rdX M T t ∧ (M.1 2 8 = nI i ∧ i ≤ t) ∧ (M.1 2 9 = nI p ∧ p ≤ t) ∧ (M.1 2 11 = nI fr ∧ fr ≤ 8) ∧ (M.1 2 19 = nI f ∧ f < 2 ^ 20)
section CRI
variable {d : Nat} {M : mm_M} {T : Nat → Nat} {t : Nat} {O : List bk_X} {a : Nat × Nat} {c : CX}
set_option maxRecDepth 200000 in
theorem ct_meas {k i p : Nat} (k9 : k = 9 ∨ k = 10) (hI : rsJ M T t i p (cxW c) (cxF c)) (h14 : M.1 2 14 = nI (askN a)) (ha : a.1 < 16 ∧ a.2 < 16) (hO : opC M O) : am_M (d + 3) false nm_X5_readMeasured [aR 2, aI (b01 (decide (k = 9)))] M (stQ M t (msE T t c k i) O (fun e => [evX a e])) := by
  have fr8 := hI.2.2.2.1.2
  refine ⟨rfl, rfl, rfl, fun X hX => ?_⟩
  -- behind ;
  have fin : ∀ (N : mm_M) (i' p' f' sn' w b v2 v3 : Nat) (q : rdrF M N), rsI N T t i' p' (cxW c) f' sn' → N.1 2 16 = b01 true → opC N O → (48 ≤ v2 ∧ v2 - 48 = w) → (48 ≤ v3 ∧ v3 - 48 = b ∧ b < 8) → (f' = 0 → w < cxW c) → msE T t c k i = .inr (evM k w b, (i', f', cxW c, cxD c, cxR c, true, cxT c)) → X 73 [some (aR 2), some (aI (b01 (decide (k = 9)))), some (aI (nI v2)), some (aI (nI v3))] [] N := by
    intro N i' p' f' sn' w b v2 v3 hF hN n16 nO hw hb h0 eE
    rw [eE] at hX
    have ew : nI v2 - 48 = nI w := by rw [show (48 : Int32) = nI 48 from rfl, nI_sub hw.1, hw.2]
    have es : nI v3 - 48 = nI b := by rw [show (48 : Int32) = nI 48 from rfl, nI_sub hb.1, hb.2.1]
    have told : X 85 [some (aR 2), some (aI (b01 (decide (k = 9)))), some (aI (nI v2)), some (aI (nI v3))] [aI (nI k), aR 2] N := by
      refine am_run hX 8 _ _ _ _ ?_
      conv => whnf
      rw [ew, es]
      have n14 : N.1 2 14 = nI (askN a) := by rw [hF.2.1 14 rfl]; exact h14
      have key : ∀ N2, apF N N2 → opC N2 (if f' = 0 then O ++ [((k, w, b, 0 % 256, a.1, a.2) : bk_X)] else O) → X 100 [some (aR 2), some (aI (b01 (decide (k = 9)))), some (aI (nI v2)), some (aI (nI v3))] [] N2 := by
        intro N2 fa oa
        refine am_run hX 2 _ _ _ _ ?_
        conv => whnf
        exact ⟨rfl, rfl, rdrF_t hF (rdrF_a fa), ⟨by rw [fa.2.1 8 (by decide)]; exact hN.2.1.1, hN.2.1.2⟩, ⟨by rw [fa.2.1 19 (by decide)]; exact hN.2.2.2.2.1.1, hN.2.2.2.2.1.2⟩, by rw [fa.2.1 16 (by decide)]; exact n16, oa⟩
      obtain ⟨q, q1, q2⟩ := ap_end (d := d + 1) (M := N) (P := fun _ _ => True) (X := X) (pc' := 100) (L := [some (aR 2), some (aI (b01 (decide (k = 9)))), some (aI (nI v2)), some (aI (nI v3))]) (st := []) (O := O) (x := ((k, w, b, 0 % 256, a.1, a.2) : bk_X)) (k := k) (w := w) (s := b) (cm := 0) (f := f') rfl ha n14 hN.2.2.2.2.1.1 hN.2.2.2.2.1.2 nO (fun z => ⟨by omega, by have := h0 z; omega, hb.2.2⟩) key
      refine ⟨q, q1, fun r M' z => ?_⟩
      obtain ⟨v, e1', e2', q3, q4, q5⟩ := q2 r M' z
      refine ⟨some (aI v), e1', ?_⟩
      rw [e2']
      refine am_run hX 1 _ _ _ _ ?_
      conv => whnf
      refine ⟨q3, q4, fun r2 N2 z2 => ?_⟩
      obtain ⟨y1, y2⟩ := q5 r2 N2 z2
      exact ⟨none, y1, y2⟩
    refine am_run hX 3 _ _ _ _ ?_
    conv => whnf
    rcases k9 with k9 | k9
    · subst k9
      refine ⟨fun z => absurd z (by decide), fun _ => ?_⟩
      refine am_run hX 2 _ _ _ _ ?_
      conv => whnf
      exact told
    · subst k9
      refine ⟨fun _ => ?_, fun z => absurd rfl z⟩
      refine am_run hX 1 _ _ _ _ ?_
      conv => whnf
      exact told
  have bad : ∀ (N : mm_M) (i' p' f' sn' : Nat) (v2 v3 : Int32) (q : rdrF M N), rsI N T t i' p' (cxW c) f' sn' → msE T t c k i = .inl p' → X 68 [some (aR 2), some (aI (b01 (decide (k = 9)))), some (aI v2), some (aI v3)] [] N := by
    intro N i' p' f' sn' v2 v3 hF hN eE
    rw [eE] at hX
    refine am_run hX 2 _ _ _ _ ?_
    conv => whnf
    refine am_cq (rs_bad (d := d + 1) hN) ?_
    rintro r2 N2 ⟨rfl, f2, e2⟩
    refine ⟨_, rfl, ?_⟩
    refine am_run hX 1 _ _ _ _ ?_
    conv => whnf
    exact ⟨rfl, rfl, e2, rdrF_t hF (rdrF_2 (by decide) f2)⟩
  -- ;
  have semi : ∀ (N : mm_M) (i' p' f' sn' w b v2 v3 : Nat) (q : rdrF M N), rsI N T t i' p' (cxW c) f' sn' → N.1 2 16 = b01 true → opC N O → (48 ≤ v2 ∧ v2 - 48 = w) → (48 ≤ v3 ∧ v3 - 48 = b ∧ b < 8) → (f' = 0 → w < cxW c) → msE T t c k i = (if crC T t i' = 59 then .inr (evM k w b, (crA T t i', f', cxW c, cxD c, cxR c, true, cxT c)) else .inl (crP T t i')) → X 59 [some (aR 2), some (aI (b01 (decide (k = 9)))), some (aI (nI v2)), some (aI (nI v3))] [] N := by
    intro N i' p' f' sn' w b v2 v3 hF hN n16 nO hw hb h0 eE
    refine am_run hX 2 _ _ _ _ ?_
    conv => whnf
    refine am_cq (rs_take (d := d + 1) hN) ?_
    rintro r1 N1 ⟨rfl, f1, i1⟩
    refine ⟨_, rfl, ?_⟩
    have ch := crc_d hN.1 i'
    refine am_run hX 2 _ _ _ _ ?_
    conv => whnf
    rw [show (59 : Int32) = nI 59 from rfl, nI_eq (by omega) (by decide)]
    by_cases q : crC T t i' = 59
    · rw [if_pos q] at eE
      exact ⟨fun _ => fin N1 _ _ _ _ w b v2 v3 (rdrF_t hF (rdrF_2 (by decide) f1)) i1 (by rw [f1.2.1 16 rfl]; exact n16) (opC_2 rfl f1 nO) hw hb h0 eE, fun z => absurd q z⟩
    · rw [if_neg q] at eE
      exact ⟨fun z => absurd z q, fun _ => bad N1 _ _ _ _ _ _ (rdrF_t hF (rdrF_2 (by decide) f1)) i1 eE⟩
  refine am_run hX 3 _ _ _ _ ?_
  conv => whnf
  refine ⟨⟨rfl, rfl⟩, ?_⟩
  generalize hN1 : mm_i M 2 _ = N1
  have F1 : r2F [16] M N1 := by rw [← hN1]; exact r2F_u M _ rfl
  have a16 : N1.1 2 16 = b01 true := by rw [← hN1]; exact r2_at _ _ _
  refine am_run hX 3 _ _ _ _ ?_
  conv => whnf
  generalize hN2 : mm_i N1 2 _ = N2
  have F2 : r2F [18] N1 N2 := by rw [← hN2]; exact r2F_u N1 _ rfl
  have I2 : rsI N2 T t i p (cxW c) (cxF c) 0 := by
    obtain ⟨a1, ⟨a2, a2'⟩, ⟨a3, a3'⟩, ⟨a4, a4'⟩, ⟨a5, a5'⟩⟩ := hI
    exact ⟨rdX_f ⟨rfl, rfl⟩ F2 (rdX_f ⟨rfl, rfl⟩ F1 a1), ⟨by rw [F2.2.1 8 rfl, F1.2.1 8 rfl]; exact a2, a2'⟩, ⟨by rw [F2.2.1 9 rfl, F1.2.1 9 rfl]; exact a3, a3'⟩, ⟨by rw [F2.2.1 11 rfl, F1.2.1 11 rfl]; exact a4, a4'⟩, ⟨by rw [F2.2.1 19 rfl, F1.2.1 19 rfl]; exact a5, a5'⟩, by rw [← hN2]; exact r2_at _ _ _, by decide⟩
  have b16 : N2.1 2 16 = b01 true := by rw [F2.2.1 16 rfl]; exact a16
  have G2 : rdrF M N2 := rdrF_t (rdrF_2 (by decide) F1) (rdrF_2 (by decide) F2)
  have O2 : opC N2 O := opC_2 rfl F2 (opC_2 rfl F1 hO)
  refine am_run hX 2 _ _ _ _ ?_
  conv => whnf
  refine am_cq (rs_take (d := d + 1) I2) ?_
  rintro r3 N3 ⟨rfl, f3, I3⟩
  refine ⟨_, rfl, ?_⟩
  have ch := crc_d I2.1 i
  refine am_run hX 3 _ _ _ _ ?_
  conv => whnf
  refine am_c1 (ct_isD5 (d := d + 1) ch) ?_
  refine am_run hX 1 _ _ _ _ ?_
  conv => whnf
  cases hd : isDg (crC T t i) with
  | false =>
    have eE : msE T t c k i = .inl (crP T t i) := by
      unfold msE
      rw [hd, if_neg (by decide)]
    rw [eE] at hX
    refine ⟨fun z => absurd rfl z, fun _ => ?_⟩
    refine am_run hX 2 _ _ _ _ ?_
    conv => whnf
    refine am_cq (rs_bad (d := d + 1) I3) ?_
    rintro r4 N4 ⟨rfl, f4, e4⟩
    refine ⟨_, rfl, ?_⟩
    refine am_run hX 1 _ _ _ _ ?_
    conv => whnf
    exact ⟨rfl, rfl, e4, rdrF_t G2 (rdrF_t (rdrF_2 (by decide) f3) (rdrF_2 (by decide) f4))⟩
  | true =>
    refine ⟨fun _ => ?_, fun z => absurd (by decide) z⟩
    obtain ⟨c1, c2⟩ := isDg_w hd
    refine am_run hX 3 _ _ _ _ ?_
    conv => whnf
    refine am_cq (rs_tell (d := d) hd I3) ?_
    rintro r4 N4 ⟨rfl, f4, I4⟩
    refine ⟨_, rfl, ?_⟩
    have G4 : rdrF M N4 := rdrF_t G2 (rdrF_t (rdrF_2 (by decide) f3) (rdrF_2 (by decide) f4))
    have d16 : N4.1 2 16 = b01 true := by rw [f4.2.1 16 rfl, f3.2.1 16 rfl]; exact b16
    have O4 : opC N4 O := opC_2 rfl f4 (opC_2 rfl f3 O2)
    have h0 : twF (cxW c) 0 (cxF c) (crP T t i) (crC T t i - 48) = 0 → crC T t i - 48 < cxW c := fun z => (twF_0 z).2.1
    refine am_run hX 3 _ _ _ _ ?_
    conv => whnf
    rcases k9 with k9 | k9
    · refine ⟨fun z => absurd z (by rw [k9]; decide), fun _ => ?_⟩
      refine am_run hX 2 _ _ _ _ ?_
      conv => whnf
      refine am_cq (rs_take (d := d + 1) I4) ?_
      rintro r5 N5 ⟨rfl, f5, I5⟩
      refine ⟨_, rfl, ?_⟩
      have G5 : rdrF M N5 := rdrF_t G4 (rdrF_2 (by decide) f5)
      have ch2 := crc_d I4.1 (crA T t i)
      refine am_run hX 5 _ _ _ _ ?_
      conv => whnf
      rw [show (48 : Int32) = nI 48 from rfl]
      by_cases q1 : crC T t (crA T t i) < 48
      · have eE : msE T t c k i = .inl (crP T t (crA T t i)) := by
          unfold msE
          rw [hd, if_pos rfl, if_pos k9, if_neg (by omega)]
        exact ⟨fun _ => bad N5 _ _ _ _ _ _ G5 I5 eE, fun z => absurd (nI_lt q1 (by decide)) z⟩
      · refine ⟨fun z => absurd z (nI_nlt (by omega) (by omega)), fun _ => ?_⟩
        refine am_run hX 3 _ _ _ _ ?_
        conv => whnf
        rw [show (51 : Int32) = nI 51 from rfl]
        by_cases q2 : 51 < crC T t (crA T t i)
        · have eE : msE T t c k i = .inl (crP T t (crA T t i)) := by
            unfold msE
            rw [hd, if_pos rfl, if_pos k9, if_neg (by omega)]
          exact ⟨fun _ => bad N5 _ _ _ _ _ _ G5 I5 eE, fun z => absurd (nI_lt q2 (by omega)) z⟩
        · refine ⟨fun z => absurd z (nI_nlt (by omega) (by decide)), fun _ => ?_⟩
          refine semi N5 _ _ _ _ (crC T t i - 48) (crC T t (crA T t i) - 48) (crC T t i) (crC T t (crA T t i)) G5 I5 (by rw [f5.2.1 16 rfl]; exact d16) (opC_2 rfl f5 O4) ⟨c1, rfl⟩ ⟨by omega, rfl, by omega⟩ h0 ?_
          unfold msE
          rw [hd, if_pos rfl, if_pos k9, if_pos (by omega)]
    · refine ⟨fun _ => ?_, fun z => absurd (by rw [k9]; rfl) z⟩
      refine am_run hX 5 _ _ _ _ ?_
      conv => whnf
      refine ⟨fun z => absurd z (by decide), fun _ => ?_⟩
      refine am_run hX 3 _ _ _ _ ?_
      conv => whnf
      refine ⟨fun z => absurd z (by decide), fun _ => ?_⟩
      refine semi N4 _ _ _ _ (crC T t i - 48) 0 (crC T t i) 48 G4 I4 d16 O4 ⟨c1, rfl⟩ ⟨by decide, rfl, by decide⟩ h0 ?_
      unfold msE
      rw [hd, if_pos rfl, if_neg (by omega)]
set_option maxRecDepth 200000 in
theorem ct_pre {h i p fr f : Nat} (hh : h < 127) (hI : rsJ M T t i p fr f) : am_M (d + 3) false nm_X5_readPrefix [aR 2, aI (nI h)] M (pfQ M T t fr (pfx T t fr 400 h p i f 0 [])) := by
  refine ⟨rfl, rfl, rfl, fun X hX => ?_⟩
  refine am_run hX 5 _ _ _ _ ?_
  conv => whnf
  generalize hN1 : mm_i M 2 _ = N1
  have F1 : r2F [18] M N1 := by rw [← hN1]; exact r2F_u M _ rfl
  refine am_run hX 3 _ _ _ _ ?_
  conv => whnf
  generalize hN2 : mm_i N1 2 _ = N2
  have F2 : r2F [17] N1 N2 := by rw [← hN2]; exact r2F_u N1 _ rfl
  have I2 : rsI N2 T t i p fr f 0 := by
    obtain ⟨a1, ⟨a2, a2'⟩, ⟨a3, a3'⟩, ⟨a4, a4'⟩, ⟨a5, a5'⟩⟩ := hI
    exact ⟨rdX_f ⟨rfl, rfl⟩ F2 (rdX_f ⟨rfl, rfl⟩ F1 a1), ⟨by rw [F2.2.1 8 rfl, F1.2.1 8 rfl]; exact a2, a2'⟩, ⟨by rw [F2.2.1 9 rfl, F1.2.1 9 rfl]; exact a3, a3'⟩, ⟨by rw [F2.2.1 11 rfl, F1.2.1 11 rfl]; exact a4, a4'⟩, ⟨by rw [F2.2.1 19 rfl, F1.2.1 19 rfl]; exact a5, a5'⟩, by rw [F2.2.1 18 rfl, ← hN1]; exact r2_at _ _ _, by decide⟩
  refine am_run hX 2 _ _ _ _ ?_
  conv => whnf
  exact pfx_l (M := M) hX _ (fun r N q => q) 400 h p i f 0 [] N2 (by decide) (by omega) hh (r2F_t (r2F_w (by decide) F1) (r2F_w (by decide) F2)) I2 (by rw [← hN2]; exact r2_at _ _ _) (by decide) (fun _ w hw => absurd hw (List.not_mem_nil)) rfl
end CRI
