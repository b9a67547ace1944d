/-! circuit: the class reads a STATEMENT -/
section CRQ
variable {d : Nat} {M : mm_M} {T : Nat → Nat} {t W : Nat} {c : CX} {s : GS}
theorem gtE_1 {k i f sn : Nat} {cs : List Nat} {bk : Bool} {e : Ev} {c1 : CX} (h : gtE T t c k i f sn cs bk = .inr (e, c1)) : (e.1 = 0 ∨ e.1 = 2) ∧ cxW c1 = cxW c ∧ cxD c1 = cxD c ∧ cxR c1 = cxR c ∧ cxT c1 = cxT c := by
  unfold gtE at h
  split at h
  · split at h
    · split at h
      · split at h
        · cases h
          exact ⟨Or.inl rfl, rfl, rfl, rfl, rfl⟩
        · cases h
      · cases h
    · split at h
      · cases h
        exact ⟨Or.inl rfl, rfl, rfl, rfl, rfl⟩
      · cases h
  · cases h
theorem ms_1 {k i : Nat} {e : Ev} {c1 : CX} (h : msE T t c k i = .inr (e, c1)) : (e.1 = 0 ∨ e.1 = 2) ∧ cxW c1 = cxW c ∧ cxD c1 = cxD c ∧ cxR c1 = cxR c ∧ cxT c1 = cxT c := by
  unfold msE at h
  split at h
  · split at h
    · split at h
      · split at h
        · cases h
          exact ⟨Or.inr rfl, rfl, rfl, rfl, rfl⟩
        · cases h
      · cases h
    · split at h
      · cases h
        exact ⟨Or.inr rfl, rfl, rfl, rfl, rfl⟩
      · cases h
  · cases h
theorem stQ_m {N K : mm_M} {z : ER} {O : List bk_X} {Y : Ev → List bk_X} {r : am_R} (F : rdrF M N) (h : stQ N t z O Y r K) : stQ M t z O Y r K := by
  cases z with
  | inl q => exact ⟨h.1, h.2.1, rdrF_t F h.2.2⟩
  | inr y => exact ⟨h.1, rdrF_t F h.2.1, h.2.2⟩
/-- a FAULT stays -/
theorem pfx_0 {fr : Nat} {h' p' i' f' sn' : Nat} {cs' : List Nat} {bk' : Bool} : ∀ (m h p i f sn : Nat) (cs : List Nat), pfx T t fr m h p i f sn cs = .inr (h', p', i', f', sn', cs', bk') → f' = 0 → f = 0
  | 0, h, p, i, f, sn, cs, e, z => by
    cases e
    exact z
  | m + 1, h, p, i, f, sn, cs, e, z => by
    have e : (if isDg h = true then (if crC T t i = 62 then pfx T t fr m (crC T t (crA T t i)) (crP T t (crA T t i)) (crA T t (crA T t i)) (twF fr sn f p (h - 48)) (sn ||| 2 ^ (h - 48)) (cs ++ [h - 48]) else .inl (crP T t i)) else if h = 45 then .inr (crC T t i, crP T t i, crA T t i, f, sn, cs, true) else .inr (h, p, i, f, sn, cs, false)) = Sum.inr (h', p', i', f', sn', cs', bk') := e
    split at e
    · split at e
      · exact (twF_0 (pfx_0 m _ _ _ _ _ _ e z)).1
      · cases e
    · split at e
      · cases e
        exact z
      · cases e
        exact z
theorem kc_w : ∀ h, h < 127 → kcN h ≠ 99 → kcN h ≤ 8 ∧ kcN h ≠ 6 ∧ kcN h ≠ 7 := by decide +kernel
theorem kc_119 : ∀ h, h < 127 → h ≠ 119 → h ≠ 64 → kcN h ≠ 99 → kcN h < 8 := by decide +kernel
theorem stY_r {z : ER} {r : am_R} {N : mm_M} (h : stY M T t W c s z r N) : r = .inl (some (aI 0)) ∨ r = .inl (some (aI 1)) := by
  cases z with
  | inl q => exact Or.inl h.1
  | inr y => exact Or.inr h.1
set_option maxRecDepth 200000 in
theorem ct_stm (hL : CLr M T t W c s) (hV : gIv W c s) (hV2 : gI2 c s) (hi : cxI c ≤ t) (h8 : M.1 2 8 = nI (crA T t (cxI c))) (h9 : M.1 2 9 = nI (crP T t (cxI c))) : am_M (d + 8) false nm_X5_readStatement [aR 2, aI (nI (crC T t (cxI c)))] M (stY M T t W c s (tkE T t W c)) := by
  have hL' := hL
  have V4 := hV.2.2.2.1
  have hV' := hV
  obtain ⟨l1, l2, l3, ⟨x1, x2, x3, x4, x5⟩, g1, g2, g3, g4⟩ := hL'
  obtain ⟨v1, v2, v3, v4, v5, v6, v7, v8, v9⟩ := hV'
  have ch := crc_d l1 (cxI c)
  have hA := (cra_1 (T := T) hi).2.1
  have hP := (crp_1 (T := T) hi).2
  have J : rsJ M T t (crA T t (cxI c)) (crP T t (cxI c)) (cxW c) (cxF c) := ⟨l1, ⟨h8, hA⟩, ⟨h9, hP⟩, ⟨x2, v2⟩, l2⟩
  refine ⟨rfl, rfl, rfl, fun X hX => ?_⟩
  generalize hz : tkE T t W c = z at hX
  unfold tkE at hz
  generalize hh : crC T t (cxI c) = h at *
  have q63 := @nI_eq h 63 (by omega) (by decide)
  have q33 := @nI_eq h 33 (by omega) (by decide)
  have q109 := @nI_eq h 109 (by omega) (by decide)
  have q114 := @nI_eq h 114 (by omega) (by decide)
  have q93 := @nI_eq h 93 (by omega) (by decide)
  have q42 := @nI_eq h 42 (by omega) (by decide)
  -- a GATE, a USE, a ROUTINE
  have low : h ≠ 63 → h ≠ 33 → h ≠ 109 → h ≠ 114 → h ≠ 93 → h ≠ 42 → ∀ v2 v4, X 102 [some (aR 2), some (aI (nI h)), some (aI v2), none, v4] [] M := by
    intro n1 n2 n3 n4 n5 n6 v2 v4
    rw [if_neg (fun y => y.1.elim n1 (fun y => y.elim n2 (fun y => y.elim n3 n4))), if_neg n5, if_neg n6, if_neg n1, if_neg n2, if_neg n3, if_neg n4] at hz
    refine am_run hX 3 _ _ _ _ ?_
    conv => whnf
    refine am_cq (ct_pre (d := d + 4) ch J) ?_
    generalize hk : pfx T t (cxW c) 400 h (crP T t (cxI c)) (crA T t (cxI c)) (cxF c) 0 [] = y at hz
    rintro r1 N1 ⟨F, P⟩
    have G : rdrF M N1 := rdrF_2 (by decide) F
    have bad : ∀ (N : mm_M) (i' p' f' sn' : Nat) (v3 : Int32) (v4 : Option am_V), rdF M N → rsI N T t i' p' (cxW c) f' sn' → z = .inl p' → X 152 [some (aR 2), some (aI (nI h)), some (aI v2), some (aI v3), v4] [] N := by
      intro N i' p' f' sn' v3 v4 hF hN eE
      rw [eE] at hX
      refine am_run hX 2 _ _ _ _ ?_
      conv => whnf
      refine am_cq (rs_bad (d := d + 6) hN) ?_
      rintro r2 N2 ⟨rfl, f2, e2⟩
      refine ⟨_, rfl, ?_⟩
      refine am_run hX 1 _ _ _ _ ?_
      conv => whnf
      exact ⟨rfl, rfl, e2, rdF_t hF (rdF_2 f2)⟩
    cases y with
    | inl q =>
      obtain ⟨rfl, i', f', sn', I1⟩ := P
      have eE : z = .inl q := hz.symm
      refine ⟨_, rfl, ?_⟩
      refine am_run hX 4 _ _ _ _ ?_
      conv => whnf
      refine ⟨fun _ => ?_, fun y => absurd (by decide) y⟩
      refine am_run hX 3 _ _ _ _ ?_
      conv => whnf
      refine ⟨fun _ => ?_, fun y => absurd (by decide) y⟩
      refine am_run hX 3 _ _ _ _ ?_
      conv => whnf
      refine ⟨by omega, ?_⟩
      conv => whnf
      rw [show (0 : Int32) = nI 0 from rfl, ix_G 0 (by decide) (by decide), if_pos (by decide)]
      refine am_run hX 3 _ _ _ _ ?_
      conv => whnf
      exact ⟨fun _ => bad N1 _ _ _ _ _ _ (rdF_2 F) I1 eE, fun y => absurd (by decide) y⟩
    | inr y =>
      obtain ⟨h', p', i', f', sn', cs, bk⟩ := y
      obtain ⟨rfl, hc, I1, e17, ml, hcs⟩ := P
      have ez : z = if h' = 64 then atE T t c p' i' f' sn' cs bk else if kcN h' = 99 then .inl p' else gtE T t c (kcN h') i' f' sn' cs bk := hz.symm
      refine ⟨_, rfl, ?_⟩
      refine am_run hX 4 _ _ _ _ ?_
      conv => whnf
      rw [show (64 : Int32) = nI 64 from rfl, nI_eq (by omega) (by decide)]
      by_cases a64 : h' = 64
      · rw [if_pos a64] at ez
        refine ⟨fun y => absurd a64 y, fun _ => ?_⟩
        refine am_run hX 2 _ _ _ _ ?_
        conv => whnf
        rw [ez] at hX
        refine am_cq (ct_rou (d := d + 1) (M := N1) (M0 := M) hL hV hV2 F I1 e17 ml hcs (fun y => pfx_0 _ _ _ _ _ _ _ hk y)) ?_
        intro r2 N2 q2
        have q2' := q2
        generalize atE T t c p' i' f' sn' cs bk = z2 at *
        cases z2 with
        | inl w =>
          obtain ⟨rfl, w2, w3⟩ := q2'
          refine ⟨_, rfl, ?_⟩
          refine am_run hX 1 _ _ _ _ ?_
          conv => whnf
          exact ⟨rfl, q2⟩
        | inr w =>
          obtain ⟨rfl, w2⟩ := q2'
          refine ⟨_, rfl, ?_⟩
          refine am_run hX 1 _ _ _ _ ?_
          conv => whnf
          exact ⟨rfl, q2⟩
      · rw [if_neg a64] at ez
        refine ⟨fun _ => ?_, fun y => absurd a64 y⟩
        have gate : kcN h' ≠ 99 → X 136 [some (aR 2), some (aI (nI h)), some (aI v2), some (aI (nI h')), v4] [aI (nI (kcN h'))] N1 := by
          intro k99
          rw [if_neg k99] at ez
          obtain ⟨k8, k6, k7⟩ := kc_w h' hc k99
          refine am_run hX 3 _ _ _ _ ?_
          conv => whnf
          refine ⟨fun y => absurd y (nI_pos (by omega)), fun _ => ?_⟩
          refine am_run hX 3 _ _ _ _ ?_
          conv => whnf
          rw [ez] at hX
          refine am_cq (ct_tgt (d := d + 4) (M := N1) (O := gO s) (a := gQ s) (c := c) k8 ⟨k6, k7⟩ I1 e17 ml hcs (by rw [F.2.1 16 rfl]; exact l3) (by rw [F.2.1 15 rfl]; exact x4) V4 (by rw [F.2.1 14 rfl]; exact g2) v6 (opC_2 rfl F g1)) ?_
          intro r2 N2 q2
          have q3 := stY_g hL (fun e c1 y => gtE_1 y) (stQ_m G q2)
          have q2' := q3
          generalize gtE T t c (kcN h') i' f' sn' cs bk = z2 at *
          cases z2 with
          | inl w =>
            obtain ⟨rfl, w2, w3⟩ := q2'
            refine ⟨_, rfl, ?_⟩
            refine am_run hX 2 _ _ _ _ ?_
            conv => whnf
            exact ⟨rfl, q3⟩
          | inr w =>
            obtain ⟨rfl, w2⟩ := q2'
            refine ⟨_, rfl, ?_⟩
            refine am_run hX 2 _ _ _ _ ?_
            conv => whnf
            exact ⟨rfl, q3⟩
        refine am_run hX 3 _ _ _ _ ?_
        conv => whnf
        rw [show (119 : Int32) = nI 119 from rfl, nI_eq (by omega) (by decide)]
        by_cases a119 : h' = 119
        · refine ⟨fun y => absurd a119 y, fun _ => ?_⟩
          have g := gate (by rw [a119]; decide)
          rw [a119] at g ⊢
          refine am_run hX 2 _ _ _ _ ?_
          conv => whnf
          exact g
        · refine ⟨fun _ => ?_, fun y => absurd a119 y⟩
          refine am_run hX 3 _ _ _ _ ?_
          conv => whnf
          refine ⟨by omega, ?_⟩
          conv => whnf
          rw [ix_G h' hc a119]
          by_cases k99 : kcN h' = 99
          · rw [if_pos k99] at ez ⊢
            refine am_run hX 3 _ _ _ _ ?_
            conv => whnf
            exact ⟨fun _ => bad N1 _ _ _ _ _ _ (rdF_2 F) I1 ez, fun y => absurd (by decide) y⟩
          · rw [if_neg k99]
            exact gate k99
  have noG : ∀ (b : Bool), (b = true ↔ (h = 63 ∨ h = 33 ∨ h = 109 ∨ h = 114)) → (b = true → cxR c = 4) → X 47 [some (aR 2), some (aI (nI h)), some (aI (b01 b)), none, none] [] M := by
    intro b hb hr
    rw [if_neg (fun y => y.2 (hr (hb.mpr y.1)))] at hz
    refine am_run hX 3 _ _ _ _ ?_
    conv => whnf
    rw [show (93 : Int32) = nI 93 from rfl, q93]
    by_cases a93 : h = 93
    · rw [if_pos a93] at hz
      refine ⟨fun y => absurd a93 y, fun _ => ?_⟩
      refine am_run hX 2 _ _ _ _ ?_
      conv => whnf
      refine am_cq (ct_clB (d := d + 5) hL hV ⟨h8, hA⟩ h9) ?_
      rw [hz]
      intro r1 N1 q1
      rcases stY_r q1 with rfl | rfl
      all_goals
        refine ⟨_, rfl, ?_⟩
        refine am_run hX 1 _ _ _ _ ?_
        conv => whnf
        exact ⟨rfl, q1⟩
    · rw [if_neg a93] at hz
      refine ⟨fun _ => ?_, fun y => absurd a93 y⟩
      have bl : ∀ k, ((h = 42 ∧ k = 14) ∨ (h = 63 ∧ k = 12) ∨ (h = 33 ∧ k = 13)) → z = blE T t c k (crA T t (cxI c)) → X 76 [some (aR 2), some (aI (nI h)), some (aI (b01 b)), none, none] [] M := by
        intro k hk ez
        refine am_run hX 3 _ _ _ _ ?_
        conv => whnf
        refine am_cq (ct_opB (d := d + 5) (k := k) hk hL hV ⟨h8, hA⟩) ?_
        rw [← ez]
        intro r1 N1 q1
        rcases stY_r q1 with rfl | rfl
        all_goals
          refine ⟨_, rfl, ?_⟩
          refine am_run hX 1 _ _ _ _ ?_
          conv => whnf
          exact ⟨rfl, q1⟩
      refine am_run hX 3 _ _ _ _ ?_
      conv => whnf
      rw [show (42 : Int32) = nI 42 from rfl, q42]
      by_cases a42 : h = 42
      · rw [if_pos a42] at hz
        exact ⟨fun _ => bl 14 (Or.inl ⟨a42, rfl⟩) hz.symm, fun y => absurd a42 y⟩
      · rw [if_neg a42] at hz
        refine ⟨fun y => absurd y a42, fun _ => ?_⟩
        refine am_run hX 3 _ _ _ _ ?_
        conv => whnf
        rw [show (63 : Int32) = nI 63 from rfl, q63]
        by_cases a63 : h = 63
        · rw [if_pos a63] at hz
          exact ⟨fun _ => bl 12 (Or.inr (Or.inl ⟨a63, rfl⟩)) hz.symm, fun y => absurd a63 y⟩
        · rw [if_neg a63] at hz
          refine ⟨fun y => absurd y a63, fun _ => ?_⟩
          refine am_run hX 3 _ _ _ _ ?_
          conv => whnf
          rw [show (33 : Int32) = nI 33 from rfl, q33]
          by_cases a33 : h = 33
          · rw [if_pos a33] at hz
            exact ⟨fun y => absurd a33 y, fun _ => bl 13 (Or.inr (Or.inr ⟨a33, rfl⟩)) hz.symm⟩
          · rw [if_neg a33] at hz
            refine ⟨fun _ => ?_, fun y => absurd a33 y⟩
            refine am_run hX 2 _ _ _ _ ?_
            conv => whnf
            have mea : ∀ k, (k = 9 ∨ k = 10) → z = msE T t c k (crA T t (cxI c)) → X 98 [some (aR 2), some (aI (nI h)), some (aI (b01 b)), none, none] [aI (b01 (decide (k = 9))), aR 2] M := by
              intro k hk ez
              refine am_run hX 1 _ _ _ _ ?_
              conv => whnf
              refine am_cq (ct_meas (d := d + 4) (k := k) (O := gO s) (a := gQ s) (c := c) hk J g2 v6 g1) ?_
              intro r1 N1 q1
              have q3 := stY_g hL (fun e c1 y => ms_1 y) q1
              rw [← ez] at q3
              rcases stY_r q3 with rfl | rfl
              all_goals
                refine ⟨_, rfl, ?_⟩
                refine am_run hX 1 _ _ _ _ ?_
                conv => whnf
                exact ⟨rfl, q3⟩
            cases b with
            | false =>
              have no : ¬ (h = 63 ∨ h = 33 ∨ h = 109 ∨ h = 114) := fun y => absurd (hb.mpr y) (by decide)
              have a109 : h ≠ 109 := fun y => no (Or.inr (Or.inr (Or.inl y)))
              have a114 : h ≠ 114 := fun y => no (Or.inr (Or.inr (Or.inr y)))
              exact ⟨fun _ => low a63 a33 a109 a114 a93 a42 _ _, fun y => absurd rfl y⟩
            | true =>
              have yes := hb.mp rfl
              refine ⟨fun y => absurd y (by decide), fun _ => ?_⟩
              refine am_run hX 4 _ _ _ _ ?_
              conv => whnf
              rw [show (109 : Int32) = nI 109 from rfl, q109]
              by_cases a109 : h = 109
              · rw [if_pos a109] at hz
                refine ⟨fun y => absurd a109 y, fun _ => ?_⟩
                refine am_run hX 2 _ _ _ _ ?_
                conv => whnf
                exact mea 9 (Or.inl rfl) hz.symm
              · rw [if_neg a109, if_pos (by omega)] at hz
                refine ⟨fun _ => ?_, fun y => absurd a109 y⟩
                refine am_run hX 1 _ _ _ _ ?_
                conv => whnf
                exact mea 10 (Or.inr rfl) hz.symm
  have at29 : ∀ (b : Bool), (b = true ↔ (h = 63 ∨ h = 33 ∨ h = 109 ∨ h = 114)) → X 29 [some (aR 2), some (aI (nI h)), none, none, none] [aI (b01 b)] M := by
    intro b hb
    refine am_run hX 3 _ _ _ _ ?_
    conv => whnf
    cases b with
    | false => exact ⟨fun _ => noG false hb (fun y => absurd y (by decide)), fun y => absurd rfl y⟩
    | true =>
      refine ⟨fun y => absurd y (by decide), fun _ => ?_⟩
      refine am_run hX 4 _ _ _ _ ?_
      conv => whnf
      rw [x4]
      by_cases r4 : cxR c = 4
      · rw [if_pos r4]
        exact ⟨fun _ => noG true hb (fun _ => r4), fun y => absurd rfl y⟩
      · rw [if_neg r4]
        rw [if_pos ⟨hb.mp rfl, r4⟩] at hz
        refine ⟨fun y => absurd y (nI_nm (by omega)), fun _ => ?_⟩
        rw [← hz] at hX
        refine am_run hX 2 _ _ _ _ ?_
        conv => whnf
        refine am_cq (ct_brok (d := d + 6) h9) ?_
        rintro r2 N2 ⟨rfl, f2, e2⟩
        refine ⟨_, rfl, ?_⟩
        refine am_run hX 1 _ _ _ _ ?_
        conv => whnf
        exact ⟨rfl, rfl, e2, rdF_2 f2⟩
  have yes24 : (h = 63 ∨ h = 33 ∨ h = 109 ∨ h = 114) → X 24 [some (aR 2), some (aI (nI h)), none, none, none] [] M := by
    intro y
    refine am_run hX 2 _ _ _ _ ?_
    conv => whnf
    exact at29 true ⟨fun _ => y, fun _ => rfl⟩
  refine am_run hX 3 _ _ _ _ ?_
  conv => whnf
  rw [show (63 : Int32) = nI 63 from rfl, q63]
  by_cases a63 : h = 63
  · exact ⟨fun _ => yes24 (Or.inl a63), fun y => absurd a63 y⟩
  · refine ⟨fun y => absurd y a63, fun _ => ?_⟩
    refine am_run hX 3 _ _ _ _ ?_
    conv => whnf
    rw [show (33 : Int32) = nI 33 from rfl, q33]
    by_cases a33 : h = 33
    · exact ⟨fun _ => yes24 (Or.inr (Or.inl a33)), fun y => absurd a33 y⟩
    · refine ⟨fun y => absurd y a33, fun _ => ?_⟩
      refine am_run hX 3 _ _ _ _ ?_
      conv => whnf
      rw [show (109 : Int32) = nI 109 from rfl, q109]
      by_cases a109 : h = 109
      · exact ⟨fun _ => yes24 (Or.inr (Or.inr (Or.inl a109))), fun y => absurd a109 y⟩
      · refine ⟨fun y => absurd y a109, fun _ => ?_⟩
        refine am_run hX 3 _ _ _ _ ?_
        conv => whnf
        rw [show (114 : Int32) = nI 114 from rfl, q114]
        by_cases a114 : h = 114
        · exact ⟨fun y => absurd a114 y, fun _ => yes24 (Or.inr (Or.inr (Or.inr a114)))⟩
        · refine ⟨fun _ => ?_, fun y => absurd a114 y⟩
          refine am_run hX 1 _ _ _ _ ?_
          conv => whnf
          exact at29 false ⟨fun y => absurd y (by decide), fun y => by omega⟩
end CRQ
