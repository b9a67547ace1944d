/-! circuit: the class reads a GATE's WIRES; m and r -/
/-- what a STATEMENT comes to, at the class: no TEXT any more; or what was read, and OPS -/
def stQ (M : mm_M) (t : Nat) (z : ER) (O : List bk_X) (X : Ev → List bk_X) (r : am_R) (N : mm_M) : Prop := match z with
  | .inl q => r = .inl (some (aI 0)) ∧ N.1 2 19 = nI (8 * q + 1) ∧ rdrF M N
  | .inr (e, c1) => r = .inl (some (aI 1)) ∧ rdrF M N ∧ (N.1 2 8 = nI (cxI c1) ∧ cxI c1 ≤ t) ∧ (N.1 2 19 = nI (cxF c1) ∧ cxF c1 < 2 ^ 20) ∧ N.1 2 16 = b01 (cxA c1) ∧ opC N (if cxF c1 = 0 then O ++ X e else O)
section CRH
variable {d : Nat} {M : mm_M} {T : Nat → Nat} {t : Nat} {O : List bk_X} {a : Nat × Nat} {c : CX}
theorem rsI_u {S : List Nat} {N : mm_M} {i p fr f sn : Nat} (hS : S.contains 6 = false ∧ S.contains 7 = false ∧ S.contains 8 = false ∧ S.contains 9 = false ∧ S.contains 11 = false ∧ S.contains 18 = false ∧ S.contains 19 = false) (F : r2F S M N) (h : rsI M T t i p fr f sn) : rsI N T t i p fr f sn := by
  obtain ⟨a1, ⟨a2, a2'⟩, ⟨a3, a3'⟩, ⟨a4, a4'⟩, ⟨a5, a5'⟩, a6, a6'⟩ := h
  exact ⟨rdX_f ⟨hS.1, hS.2.1⟩ F a1, ⟨by rw [F.2.1 8 hS.2.2.1]; exact a2, a2'⟩, ⟨by rw [F.2.1 9 hS.2.2.2.1]; exact a3, a3'⟩, ⟨by rw [F.2.1 11 hS.2.2.2.2.1]; exact a4, a4'⟩, ⟨by rw [F.2.1 19 hS.2.2.2.2.2.2]; exact a5, a5'⟩, by rw [F.2.1 18 hS.2.2.2.2.2.1]; exact a6, a6'⟩
/-- a STATEMENT stands ahead -/
theorem ahd {v16 v15 : Int32} (h16 : v16 = b01 (cxA c)) (h15 : v15 = if cxR c = 4 then -1 else nI (cxR c)) (hr : cxR c ≤ 4) : (¬ v16 = 0 ∨ v15 = -1) ↔ (cxA c || decide (cxR c = 4)) = true := by
  subst h16 h15
  cases cxA c with
  | true => exact ⟨fun _ => rfl, fun _ => Or.inl (by decide)⟩
  | false =>
    by_cases q : cxR c = 4
    · rw [if_pos q, decide_eq_true q]
      exact ⟨fun _ => rfl, fun _ => Or.inr rfl⟩
    · rw [if_neg q, decide_eq_false q]
      refine ⟨fun z => ?_, fun z => absurd z (by decide)⟩
      rcases z with z | z
      · exact absurd rfl z
      · exact absurd z (nI_nm (by omega))
set_option maxRecDepth 200000 in
theorem ct_tgt {k i p f sn : Nat} {cs : List Nat} {bk : Bool} (hk : k ≤ 8) (k6 : k ≠ 6 ∧ k ≠ 7) (hI : rsI M T t i p (cxW c) f sn) (h17 : M.1 2 17 = nI (mskL cs + bckN bk)) (hl : mskL cs < 2 ^ 10) (hcs : f = 0 → ∀ w ∈ cs, w < cxW c) (h16 : M.1 2 16 = b01 (cxA c)) (h15 : M.1 2 15 = if cxR c = 4 then -1 else nI (cxR c)) (hr : cxR c ≤ 4) (h14 : M.1 2 14 = nI (askN a)) (ha : a.1 < 16 ∧ a.2 < 16) (hO : opC M O) : am_M (d + 3) false nm_X5_readTargets [aR 2, aI (nI k)] M (stQ M t (gtE T t c k i f sn cs bk) O (fun e => [evX a e])) := by
  have fr8 := hI.2.2.2.1.2
  refine ⟨rfl, rfl, rfl, fun X hX => ?_⟩
  -- behind ;
  have fin : ∀ (N : mm_M) (i' p' f' sn' w s : Nat) (v2 v3 : Nat) (ws : List Nat) (q : rdrF M N), rsI N T t i' p' (cxW c) f' sn' → N.1 2 17 = nI (mskL cs + bckN bk) → N.1 2 16 = b01 (cxA c || decide (cxR c = 4)) → opC N O → (isDg v2 = true ∧ v2 - 48 = w) → (isDg v3 = true ∧ v3 - 48 = s) → (f' = 0 → f = 0 ∧ w < cxW c ∧ s < 8) → ws.getD 0 0 = w → (if k = 8 then ws.getD 1 0 else 0) = s → gtE T t c k i f sn cs bk = .inr (evG k bk cs ws, cxS c i' f') → X 93 [some (aR 2), some (aI (nI k)), some (aI (nI v2)), some (aI (nI v3)), none] [] N := by
    intro N i' p' f' sn' w s v2 v3 ws hF hN n17 n16 nO hw hs h0 e0 e1 eE
    rw [eE] at hX
    obtain ⟨w1, w2⟩ := isDg_w hw.1
    obtain ⟨s1, s2⟩ := isDg_w hs.1
    have ew : nI v2 - 48 = nI w := by rw [show (48 : Int32) = nI 48 from rfl, nI_sub (by omega), hw.2]
    have es : nI v3 - 48 = nI s := by rw [show (48 : Int32) = nI 48 from rfl, nI_sub (by omega), hs.2]
    have told : X 110 [some (aR 2), some (aI (nI k)), some (aI (nI v2)), some (aI (nI v3)), none] [aI (nI (if bk = true then ikN k else k))] N := by
      refine am_run hX 12 _ _ _ _ ?_
      conv => whnf
      rw [ew, es, n17]
      have n14 : N.1 2 14 = nI (askN a) := by rw [hF.2.1 14 rfl]; exact h14
      have kx : (if bk = true then ikN k else k) < 16 := by
        unfold ikN
        split
        · split
          · decide
          · split
            · decide
            · split
              · decide
              · split
                · decide
                · omega
        · omega
      have key : ∀ N2, apF N N2 → opC N2 (if f' = 0 then O ++ [((if bk = true then ikN k else k), w, s, (mskL cs + bckN bk) % 256, a.1, a.2)] else O) → X 133 [some (aR 2), some (aI (nI k)), some (aI (nI v2)), some (aI (nI v3)), some (aI (nI (if bk = true then ikN k else k)))] [] N2 := by
        intro N2 fa oa
        refine am_run hX 2 _ _ _ _ ?_
        conv => whnf
        refine ⟨rfl, rfl, rdrF_t hF (rdrF_a fa), ⟨by rw [fa.2.1 8 (by decide)]; exact hN.2.1.1, hN.2.1.2⟩, ⟨by rw [fa.2.1 19 (by decide)]; exact hN.2.2.2.2.1.1, hN.2.2.2.2.1.2⟩, by rw [fa.2.1 16 (by decide)]; exact n16, ?_⟩
        by_cases z : f' = 0
        · rw [if_pos z] at oa
          show opC N2 (if f' = 0 then O ++ [evX a (evG k bk cs ws)] else O)
          rw [if_pos z]
          have em : (mskL cs + bckN bk) % 256 = mskL cs := by
            have m8 : mskL cs < 256 := msk_l cs 0 (by decide) (fun y hy => by have := hcs (h0 z).1 y hy; omega)
            unfold bckN
            split <;> omega
          have ex : evX a (evG k bk cs ws) = ((if bk = true then ikN k else k), w, s, (mskL cs + bckN bk) % 256, a.1, a.2) := by
            rw [em]
            show ((if bk = true then ikN k else k), ws.getD 0 0, (if k = 8 then ws.getD 1 0 else 0), mskL cs, a.1, a.2) = _
            rw [e0, e1]
          rw [ex]
          exact oa
        · rw [if_neg z] at oa
          show opC N2 (if f' = 0 then O ++ [evX a (evG k bk cs ws)] else O)
          rw [if_neg z]
          exact oa
      obtain ⟨q, q1, q2⟩ := ap_end (d := d + 1) (M := N) (P := fun _ _ => True) (X := X) (pc' := 133) (L := [some (aR 2), some (aI (nI k)), some (aI (nI v2)), some (aI (nI v3)), some (aI (nI (if bk = true then ikN k else k)))]) (st := []) (O := O) (x := ((if bk = true then ikN k else k), w, s, (mskL cs + bckN bk) % 256, a.1, a.2)) (k := if bk = true then ikN k else k) (w := w) (s := s) (cm := mskL cs + bckN bk) (f := f') rfl ha n14 hN.2.2.2.2.1.1 hN.2.2.2.2.1.2 nO (fun z => ⟨kx, by have := h0 z; omega, (h0 z).2.2⟩) key
      · refine ⟨q, q1, fun r M' z => ?_⟩
        obtain ⟨v, e1', e2', q3, q4, q5⟩ := q2 r M' z
        refine ⟨some (aI v), e1', ?_⟩
        rw [e2']
        refine am_run hX 1 _ _ _ _ ?_
        conv => whnf
        refine ⟨q3, q4, fun r2 N2 z2 => ?_⟩
        obtain ⟨y1, y2⟩ := q5 r2 N2 z2
        exact ⟨none, y1, y2⟩
    refine am_run hX 4 _ _ _ _ ?_
    conv => whnf
    rw [n17, show (65536 : Int32) = nI 65536 from rfl]
    cases bk with
    | true =>
      refine ⟨fun z => absurd z (nI_nlt (by show 65536 ≤ mskL cs + 65536; omega) (by show mskL cs + 65536 < _; omega)), fun _ => ?_⟩
      refine am_run hX 2 _ _ _ _ ?_
      conv => whnf
      refine am_c1 (ct_ik (d := d + 1) (by omega)) ?_
      refine am_run hX 1 _ _ _ _ ?_
      conv => whnf
      exact told
    | false =>
      refine ⟨fun _ => ?_, fun z => absurd (nI_lt (by show mskL cs + 0 < 65536; omega) (by decide)) z⟩
      refine am_run hX 1 _ _ _ _ ?_
      conv => whnf
      exact told
  -- ;
  have semi : ∀ (N : mm_M) (i' p' f' sn' w s : Nat) (v2 v3 : Nat) (ws : List Nat) (q : rdrF M N), rsI N T t i' p' (cxW c) f' sn' → N.1 2 17 = nI (mskL cs + bckN bk) → N.1 2 16 = b01 (cxA c || decide (cxR c = 4)) → opC N O → (isDg v2 = true ∧ v2 - 48 = w) → (isDg v3 = true ∧ v3 - 48 = s) → (f' = 0 → f = 0 ∧ w < cxW c ∧ s < 8) → ws.getD 0 0 = w → (if k = 8 then ws.getD 1 0 else 0) = s → gtE T t c k i f sn cs bk = (if crC T t i' = 59 then .inr (evG k bk cs ws, cxS c (crA T t i') f') else .inl (crP T t i')) → X 79 [some (aR 2), some (aI (nI k)), some (aI (nI v2)), some (aI (nI v3)), none] [] N := by
    intro N i' p' f' sn' w s v2 v3 ws hF hN n17 n16 nO hw hs h0 e0 e1 eE
    refine am_run hX 2 _ _ _ _ ?_
    conv => whnf
    refine am_cq (rs_take (d := d + 1) hN) ?_
    rintro r1 N1 ⟨rfl, f1, i1⟩
    refine ⟨_, rfl, ?_⟩
    have ch := crc_d hN.1 i'
    refine am_run hX 2 _ _ _ _ ?_
    conv => whnf
    rw [show (59 : Int32) = nI 59 from rfl, nI_eq (by omega) (by decide)]
    by_cases q : crC T t i' = 59
    · rw [if_pos q] at eE
      refine ⟨fun _ => ?_, fun z => absurd q z⟩
      exact fin N1 _ _ _ _ w s v2 v3 ws (rdrF_t hF (rdrF_2 (by decide) f1)) i1 (by rw [f1.2.1 17 rfl]; exact n17) (by rw [f1.2.1 16 rfl]; exact n16) (opC_2 rfl f1 nO) hw hs h0 e0 e1 eE
    · rw [if_neg q] at eE
      rw [eE] at hX
      refine ⟨fun z => absurd z q, fun _ => ?_⟩
      refine am_run hX 2 _ _ _ _ ?_
      conv => whnf
      refine am_cq (rs_bad (d := d + 1) i1) ?_
      rintro r2 N2 ⟨rfl, f2, e2⟩
      refine ⟨_, rfl, ?_⟩
      refine am_run hX 1 _ _ _ _ ?_
      conv => whnf
      exact ⟨rfl, rfl, e2, rdrF_t hF (rdrF_t (rdrF_2 (by decide) f1) (rdrF_2 (by decide) f2))⟩
  -- a STATEMENT ahead, then the first WIRE
  have body : ∀ N, r2F [16] M N → N.1 2 16 = b01 (cxA c || decide (cxR c = 4)) → X 24 [some (aR 2), some (aI (nI k)), none, none, none] [] N := by
    intro N F n16
    have hN : rsI N T t i p (cxW c) f sn := rsI_u ⟨rfl, rfl, rfl, rfl, rfl, rfl, rfl⟩ F hI
    have n17 : N.1 2 17 = nI (mskL cs + bckN bk) := by rw [F.2.1 17 rfl]; exact h17
    have nO : opC N O := opC_2 rfl F hO
    have G : rdrF M N := rdrF_2 (by decide) F
    refine am_run hX 2 _ _ _ _ ?_
    conv => whnf
    refine am_cq (rs_take (d := d + 1) hN) ?_
    rintro r1 N1 ⟨rfl, f1, i1⟩
    refine ⟨_, rfl, ?_⟩
    have ch := crc_d hN.1 i
    refine am_run hX 3 _ _ _ _ ?_
    conv => whnf
    refine am_c1 (ct_isD5 (d := d + 1) ch) ?_
    refine am_run hX 1 _ _ _ _ ?_
    conv => whnf
    cases hd : isDg (crC T t i) with
    | false =>
      have eE : gtE T t c k i f sn cs bk = .inl (crP T t i) := by
        unfold gtE
        rw [hd, if_neg (by decide)]
      rw [eE] at hX
      refine ⟨fun z => absurd rfl z, fun _ => ?_⟩
      refine am_run hX 2 _ _ _ _ ?_
      conv => whnf
      refine am_cq (rs_bad (d := d + 1) i1) ?_
      rintro r2 N2 ⟨rfl, f2, e2⟩
      refine ⟨_, rfl, ?_⟩
      refine am_run hX 1 _ _ _ _ ?_
      conv => whnf
      exact ⟨rfl, rfl, e2, rdrF_t G (rdrF_t (rdrF_2 (by decide) f1) (rdrF_2 (by decide) f2))⟩
    | true =>
      refine ⟨fun _ => ?_, fun z => absurd (by decide) z⟩
      refine am_run hX 3 _ _ _ _ ?_
      conv => whnf
      refine am_cq (rs_tell (d := d) hd i1) ?_
      rintro r2 N2 ⟨rfl, f2, i2⟩
      refine ⟨_, rfl, ?_⟩
      have G2 : rdrF M N2 := rdrF_t G (rdrF_t (rdrF_2 (by decide) f1) (rdrF_2 (by decide) f2))
      have m17 : N2.1 2 17 = nI (mskL cs + bckN bk) := by rw [f2.2.1 17 rfl, f1.2.1 17 rfl]; exact n17
      have m16 : N2.1 2 16 = b01 (cxA c || decide (cxR c = 4)) := by rw [f2.2.1 16 rfl, f1.2.1 16 rfl]; exact n16
      have mO : opC N2 O := opC_2 rfl f2 (opC_2 rfl f1 nO)
      refine am_run hX 3 _ _ _ _ ?_
      conv => whnf
      refine am_run hX 3 _ _ _ _ ?_
      conv => whnf
      rw [show (8 : Int32) = nI 8 from rfl, nI_eq (by omega) (by decide)]
      by_cases k8 : k = 8
      · refine ⟨fun z => absurd k8 z, fun _ => ?_⟩
        refine am_run hX 2 _ _ _ _ ?_
        conv => whnf
        refine am_cq (rs_take (d := d + 1) i2) ?_
        rintro r3 N3 ⟨rfl, f3, i3⟩
        refine ⟨_, rfl, ?_⟩
        have ch2 := crc_d i2.1 (crA T t i)
        refine am_run hX 3 _ _ _ _ ?_
        conv => whnf
        refine am_c1 (ct_isD5 (d := d + 1) ch2) ?_
        refine am_run hX 1 _ _ _ _ ?_
        conv => whnf
        cases hd2 : isDg (crC T t (crA T t i)) with
        | false =>
          have eE : gtE T t c k i f sn cs bk = .inl (crP T t (crA T t i)) := by
            unfold gtE
            rw [hd, if_pos rfl, if_pos k8, hd2, if_neg (by decide)]
          rw [eE] at hX
          refine ⟨fun z => absurd rfl z, fun _ => ?_⟩
          refine am_run hX 2 _ _ _ _ ?_
          conv => whnf
          refine am_cq (rs_bad (d := d + 1) i3) ?_
          rintro r4 N4 ⟨rfl, f4, e4⟩
          refine ⟨_, rfl, ?_⟩
          refine am_run hX 1 _ _ _ _ ?_
          conv => whnf
          exact ⟨rfl, rfl, e4, rdrF_t G2 (rdrF_t (rdrF_2 (by decide) f3) (rdrF_2 (by decide) f4))⟩
        | true =>
          refine ⟨fun _ => ?_, fun z => absurd (by decide) z⟩
          refine am_run hX 3 _ _ _ _ ?_
          conv => whnf
          refine am_cq (rs_tell (d := d) hd2 i3) ?_
          rintro r4 N4 ⟨rfl, f4, i4⟩
          refine ⟨_, rfl, ?_⟩
          refine am_run hX 1 _ _ _ _ ?_
          conv => whnf
          refine semi N4 _ _ _ _ _ _ (crC T t i) (crC T t (crA T t i)) [crC T t i - 48, crC T t (crA T t i) - 48] (rdrF_t G2 (rdrF_t (rdrF_2 (by decide) f3) (rdrF_2 (by decide) f4))) i4 (by rw [f4.2.1 17 rfl, f3.2.1 17 rfl]; exact m17) (by rw [f4.2.1 16 rfl, f3.2.1 16 rfl]; exact m16) (opC_2 rfl f4 (opC_2 rfl f3 mO)) ⟨hd, rfl⟩ ⟨hd2, rfl⟩ (fun z => ?_) rfl (by rw [if_pos k8]; rfl) ?_
          · obtain ⟨z1, z2, _⟩ := twF_0 z
            obtain ⟨z3, z4, _⟩ := twF_0 z1
            exact ⟨z3, z4, by omega⟩
          · unfold gtE
            rw [hd, if_pos rfl, if_pos k8, hd2, if_pos rfl]
      · refine ⟨fun _ => ?_, fun z => absurd k8 z⟩
        refine semi N2 _ _ _ _ _ 0 (crC T t i) 48 [crC T t i - 48] G2 i2 m17 m16 mO ⟨hd, rfl⟩ ⟨by decide, rfl⟩ (fun z => ?_) rfl (by rw [if_neg k8]) ?_
        · obtain ⟨z1, z2, _⟩ := twF_0 z
          exact ⟨z1, z2, by decide⟩
        · unfold gtE
          rw [hd, if_pos rfl, if_neg k8]
  have put : ∀ (v : Int32), v = b01 (cxA c || decide (cxR c = 4)) → X 21 [some (aR 2), some (aI (nI k)), none, none, none] [aI v, aR 2] M := by
    intro v hv
    refine am_run hX 1 _ _ _ _ ?_
    conv => whnf
    refine ⟨by rw [hv]; cases (cxA c || decide (cxR c = 4)) <;> exact ⟨rfl, rfl⟩, ?_⟩
    refine body _ (r2F_u M _ rfl) ?_
    rw [r2_at]
    exact hv
  have iff := ahd (c := c) h16 h15 hr
  refine am_run hX 4 _ _ _ _ ?_
  conv => whnf
  by_cases q : M.1 2 16 = 0
  · refine ⟨fun z => absurd q z, fun _ => ?_⟩
    refine am_run hX 4 _ _ _ _ ?_
    conv => whnf
    by_cases q2 : M.1 2 15 = -1
    · have e := iff.mp (Or.inr q2)
      refine ⟨fun z => absurd q2 z, fun _ => ?_⟩
      refine am_run hX 2 _ _ _ _ ?_
      conv => whnf
      exact put 1 (by rw [e]; rfl)
    · have e : (cxA c || decide (cxR c = 4)) = false := by
        cases hq : (cxA c || decide (cxR c = 4)) with
        | false => rfl
        | true => exact absurd (iff.mpr hq) (fun z => z.elim (fun y => y q) q2)
      refine ⟨fun _ => ?_, fun z => absurd q2 z⟩
      refine am_run hX 1 _ _ _ _ ?_
      conv => whnf
      exact put 0 (by rw [e]; rfl)
  · have e := iff.mp (Or.inl q)
    refine ⟨fun _ => ?_, fun z => absurd q z⟩
    refine am_run hX 2 _ _ _ _ ?_
    conv => whnf
    exact put 1 (by rw [e]; rfl)
end CRH
