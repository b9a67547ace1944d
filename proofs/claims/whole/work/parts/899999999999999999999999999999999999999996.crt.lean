/-! circuit: the class reads a TEXT, whole -/
section CRU
variable {d : Nat} {M : mm_M} {T : Nat → Nat} {t W : Nat} {c : CX} {s : GS}
set_option maxRecDepth 100000 in
theorem hs_l3 {P : am_Q} {X : am_X} {k : Nat} (hX : am_K (d + 1) false nm_X0_hsIn P X) (hk : k ≤ 300) (hK : ∀ l4, X 43 [some (aR 3), some (aI 0), some (aI (nI k)), some (aI (nI (hcN (M.1 3) k))), l4] [] M) : ∀ (m i : Nat), i + m = k → X 5 [some (aR 3), some (aI 0), some (aI (nI k)), some (aI (nI (hcN (M.1 3) i))), some (aI (nI i))] [] M := by
  intro m
  induction m with
  | zero =>
    intro i hi
    have hi : i = k := by omega
    subst hi
    refine am_run hX 3 _ _ _ _ ?_
    conv => whnf
    exact ⟨fun _ => hK _, fun c => absurd (nI_le (Nat.le_refl _) (by omega)) c⟩
  | succ m ih =>
    intro i hi
    have ih := ih (i + 1) (by omega)
    have e : hcN (M.1 3) (i + 1) = hcN (M.1 3) i + (if M.1 3 i &&& 15 = 3 then 1 else 0) := rfl
    rw [e] at ih
    refine am_run hX 3 _ _ _ _ ?_
    conv => whnf
    refine ⟨fun c => absurd c (nI_ge (by omega) (by omega)), fun _ => ?_⟩
    refine am_run hX 4 _ _ _ _ ?_
    conv => whnf
    refine ⟨fun c => absurd c (nI_ge (b := 300) (by omega) (by decide)), fun _ => ?_⟩
    refine am_run hX 7 _ _ _ _ ?_
    conv => whnf
    refine ⟨vp_in_nI (by show i < 300; omega) (by decide), ?_⟩
    conv => whnf
    rw [nI_clamp (n := i) (by omega)]
    refine am_c1 ct_kind ?_
    conv => whnf
    refine ⟨fun c => ?_, fun c => ?_⟩
    · rw [if_neg c] at ih
      refine am_run hX 5 _ _ _ _ ?_
      conv => whnf
      rw [nI_1, show nI (hcN (M.1 3) i) + 0 = nI (hcN (M.1 3) i + 0) from nI_add _ 0]
      exact ih
    · rw [if_pos (Decidable.byContradiction c)] at ih
      refine am_run hX 6 _ _ _ _ ?_
      conv => whnf
      rw [nI_1, nI_1]
      exact ih
set_option maxRecDepth 100000 in
theorem ct_hs3 {k : Nat} (hk : k ≤ 300) : am_M (d + 2) false nm_X0_hsIn [aR 3, aI 0, aI (nI k)] M (am_q1 (aI (nI (hcN (M.1 3) k))) M) := by
  refine ⟨rfl, rfl, rfl, fun X hX => am_run hX 4 _ _ _ _ ?_⟩
  conv => whnf
  refine hs_l3 hX hk (fun l4 => ?_) k 0 (by omega)
  refine am_run hX 2 _ _ _ _ ?_
  conv => whnf
  exact ⟨trivial, rfl, rfl⟩
theorem hcl_le : ∀ l : List bk_X, hcl l ≤ l.length
  | [] => Nat.le_refl _
  | x :: l => by
    have := hcl_le l
    show (if x.1 = 3 then 1 else 0) + hcl l ≤ l.length + 1
    split <;> omega
theorem pfx_p {fr : Nat} : ∀ (m h p i f sn : Nat) (cs : List Nat), p ≤ t → i ≤ t → (match pfx T t fr m h p i f sn cs with
  | .inl q => q ≤ t
  | .inr (_, p', i', _) => p' ≤ t ∧ i' ≤ t)
  | 0, h, p, i, f, sn, cs, hp, hi => ⟨hp, hi⟩
  | m + 1, h, p, i, f, sn, cs, hp, hi => by
    have e : pfx T t fr (m + 1) h p i f sn cs = (if isDg h = true then (if crC T t i = 62 then pfx T t fr m (crC T t (crA T t i)) (crP T t (crA T t i)) (crA T t (crA T t i)) (twF fr sn f p (h - 48)) (sn ||| 2 ^ (h - 48)) (cs ++ [h - 48]) else .inl (crP T t i)) else if h = 45 then .inr (crC T t i, crP T t i, crA T t i, f, sn, cs, true) else .inr (h, p, i, f, sn, cs, false)) := rfl
    rw [e]
    have a1 := cra_1 (T := T) hi
    have a2 := cra_1 (T := T) a1.2.1
    by_cases q1 : isDg h = true
    · rw [if_pos q1]
      by_cases q2 : crC T t i = 62
      · rw [if_pos q2]
        exact pfx_p m _ _ _ _ _ _ (crp_1 a1.2.1).2 a2.2.1
      · rw [if_neg q2]
        exact (crp_1 hi).2
    · rw [if_neg q1]
      by_cases q2 : h = 45
      · rw [if_pos q2]
        exact ⟨(crp_1 hi).2, a1.2.1⟩
      · rw [if_neg q2]
        exact ⟨hp, hi⟩
theorem usw_i {fr : Nat} : ∀ (m i f sn : Nat) (ws : List Nat), i ≤ t → (usw T t fr m i f sn ws).1 ≤ t
  | 0, i, f, sn, ws, it => it
  | m + 1, i, f, sn, ws, it => by
    have e : usw T t fr (m + 1) i f sn ws = if isDg (crC T t i) = true then usw T t fr m (crA T t i) (twF fr sn f (crP T t i) (crC T t i - 48)) (sn ||| 2 ^ (crC T t i - 48)) (ws ++ [crC T t i - 48]) else (i, f, ws) := rfl
    rw [e]
    split
    · exact usw_i m _ _ _ _ (cra_1 (T := T) it).2.1
    · exact it
theorem tk_le {q : Nat} (it : cxI c ≤ t) (h : tkE T t W c = .inl q) : q ≤ t := by
  have p0 := (crp_1 (T := T) it).2
  have a1 := (cra_1 (T := T) it).2.1
  have bl : ∀ k i, i ≤ t → blE T t c k i = .inl q → q ≤ t := by
    intro k i hi z
    have b1 := (cra_1 (T := T) hi).2.1
    unfold blE at z
    split at z
    · split at z
      · cases z
      · cases z
        exact (crp_1 b1).2
    · cases z
      exact (crp_1 hi).2
  have ms : ∀ k i, i ≤ t → msE T t c k i = .inl q → q ≤ t := by
    intro k i hi z
    have b1 := (cra_1 (T := T) hi).2.1
    have b2 := (cra_1 (T := T) b1).2.1
    unfold msE at z
    split at z
    · split at z
      · split at z
        · split at z
          · cases z
          · cases z
            exact (crp_1 b2).2
        · cases z
          exact (crp_1 b1).2
      · split at z
        · cases z
        · cases z
          exact (crp_1 b1).2
    · cases z
      exact (crp_1 hi).2
  have gt : ∀ k i f sn cs bk, i ≤ t → gtE T t c k i f sn cs bk = .inl q → q ≤ t := by
    intro k i f sn cs bk hi z
    have b1 := (cra_1 (T := T) hi).2.1
    have b2 := (cra_1 (T := T) b1).2.1
    unfold gtE at z
    split at z
    · split at z
      · split at z
        · split at z
          · cases z
          · cases z
            exact (crp_1 b2).2
        · cases z
          exact (crp_1 b1).2
      · split at z
        · cases z
        · cases z
          exact (crp_1 b1).2
    · cases z
      exact (crp_1 hi).2
  have at' : ∀ sg i f sn cs bk, i ≤ t → atE T t c sg i f sn cs bk = .inl q → q ≤ t := by
    intro sg i f sn cs bk hi z
    have b1 := (cra_1 (T := T) hi).2.1
    have b2 := (cra_1 (T := T) b1).2.1
    unfold atE at z
    split at z
    · split at z
      · split at z
        · split at z
          · cases z
          · cases z
            exact (crp_1 b2).2
        · unfold usE at z
          split at z
          · cases z
          · cases z
            exact (crp_1 (usw_i _ _ _ _ _ b2)).2
      · cases z
        exact (crp_1 b1).2
    · cases z
      exact (crp_1 hi).2
  unfold tkE at h
  split at h
  · cases h
    exact p0
  · split at h
    · unfold clE at h
      split at h
      · cases h
        exact p0
      · split at h
        · cases h
        · cases h
    · split at h
      · exact bl _ _ a1 h
      · split at h
        · exact bl _ _ a1 h
        · split at h
          · exact bl _ _ a1 h
          · split at h
            · exact ms _ _ a1 h
            · split at h
              · exact ms _ _ a1 h
              · have key := pfx_p (T := T) (t := t) (fr := cxW c) 400 (crC T t (cxI c)) (crP T t (cxI c)) (crA T t (cxI c)) (cxF c) 0 [] p0 a1
                generalize pfx T t (cxW c) 400 (crC T t (cxI c)) (crP T t (cxI c)) (crA T t (cxI c)) (cxF c) 0 [] = y at h key
                cases y with
                | inl w =>
                  cases h
                  exact key
                | inr y =>
                  obtain ⟨h', p', i', f', sn', cs, bk⟩ := y
                  have h : (if h' = 64 then atE T t c p' i' f' sn' cs bk else if kcN h' = 99 then .inl p' else gtE T t c (kcN h') i' f' sn' cs bk) = Sum.inl q := h
                  split at h
                  · exact at' _ _ _ _ _ _ key.2 h
                  · split at h
                    · cases h
                      exact key.1
                    · exact gt _ _ _ _ _ _ key.2 h
theorem CLr_f {N : mm_M} (F : r2F [8, 9] M N) (h : CLr M T t W c s) : CLr N T t W c s := by
  obtain ⟨l1, l2, l3, ⟨x1, x2, x3, x4, x5⟩, g1, g2, g3, g4⟩ := h
  refine ⟨rdX_f ⟨rfl, rfl⟩ F l1, ⟨by rw [F.2.1 19 rfl]; exact l2.1, l2.2⟩, by rw [F.2.1 16 rfl]; exact l3, ⟨by rw [F.2.1 10 rfl]; exact x1, by rw [F.2.1 11 rfl]; exact x2, by rw [F.2.1 13 rfl]; exact x3, by rw [F.2.1 15 rfl]; exact x4, by rw [F.1 6 (by decide)]; exact x5⟩, opC_2 rfl F g1, by rw [F.2.1 14 rfl]; exact g2, by rw [F.1 7 (by decide)]; exact g3, fun l hl ht => ?_⟩
  exact rtK_e hl (by rw [F.1 5 (by decide)]) (fun j _ => by rw [F.1 4 (by decide)]) (g4 l hl ht)
def gI4 (W : Nat) (c : CX) : Prop := cxR c = 4 → cxW c = W
theorem gK_s {c1 : CX} {e : Ev} (hT : ∀ j, j < t → T j < 127) (it : cxI c ≤ t) (h : tkE T t W c = .inr (e, c1)) (hV : gI4 W c) : gI4 W c1 := by
  rcases (tk_k hT it h).1 with q | q | q | q | q | q
  · obtain ⟨k, bk, cs, ws, i', f', rfl, rfl, _⟩ := q
    exact hV
  · obtain ⟨l, bk, cs, ws, i', f', rfl, rfl, _⟩ := q
    exact hV
  · obtain ⟨k, w, b, i', f', rfl, rfl, _⟩ := q
    exact hV
  · obtain ⟨k, q, i', rfl, rfl, _⟩ := q
    exact hV
  · obtain ⟨l, k, i', f', rfl, rfl, r4, ah, l4, _⟩ := q
    intro z
    have z : l = 4 := z
    omega
  · obtain ⟨rfl, D0, i', h⟩ := q
    rcases h with ⟨D1, r4, rfl⟩ | ⟨no, rfl⟩
    · exact fun _ => rfl
    · exact hV
set_option maxRecDepth 200000 in
theorem ct_read (t4 : t ≤ 400) (hc : ∀ j, j < t → M.1 1 j = nI (T j) ∧ 32 ≤ T j ∧ T j < 127) : am_M (d + 10) false nm_X5_read [aR 2, aR 1, aI (nI t)] M (fun r N => r = .inl none ∧ rdF M N ∧ rdN T t N) := by
  have hT := fun j hj => (hc j hj).2.2
  have hT3 := fun j hj => (hc j hj).2.1
  refine ⟨rfl, rfl, rfl, fun X hX => ?_⟩
  -- with a FAULT
  have bad72 : ∀ (N : mm_M) (F : Nat) (v3 v4 : Int32), F ≠ 0 → F < 2 ^ 20 → N.1 2 19 = nI F → rdF M N → rdN T t N → X 72 [some (aR 2), some (aR 1), some (aI (nI t)), some (aI v3), some (aI v4)] [] N := by
    intro N F v3 v4 F0 Fl e F1 R
    refine am_run hX 3 _ _ _ _ ?_
    conv => whnf
    rw [e]
    refine ⟨fun _ => ?_, fun z => absurd (nI_ne0 (n := F) (by omega) (by omega)) z⟩
    refine am_run hX 1 _ _ _ _ ?_
    conv => whnf
    exact ⟨trivial, rfl, F1, R⟩
  have no : ∀ (N : mm_M) (p : Nat) (i : Int32), txR T t p → p ≤ t → N.1 2 19 = nI (8 * p + 1) → rdF M N → X 14 [some (aR 2), some (aR 1), some (aI (nI t)), some (aI 0), some (aI i)] [] N := by
    intro N p i hp pt e F1
    have key := bad72 N (8 * p + 1) 0 i (by omega) (by omega) e F1 (Or.inl ⟨p, hp, pt, e⟩)
    have k48 : X 48 [some (aR 2), some (aR 1), some (aI (nI t)), some (aI 0), some (aI i)] [] N := by
      refine am_run hX 2 _ _ _ _ ?_
      conv => whnf
      exact ⟨fun _ => key, fun z => absurd rfl z⟩
    refine am_run hX 3 _ _ _ _ ?_
    conv => whnf
    refine ⟨fun _ => k48, fun _ => ?_⟩
    refine am_run hX 2 _ _ _ _ ?_
    conv => whnf
    exact ⟨fun _ => k48, fun z => absurd rfl z⟩
  -- the end of a TEXT
  have fin : ∀ (W : Nat) (N : mm_M) (c : CX) (s : GS) (m : Nat) (i : Int32), (49 ≤ crC T t 0 ∧ crC T t 0 ≤ 56) → crC T t (crA T t 0) = 58 → W = crC T t 0 - 48 → rdF M N → CLr N T t W c s → gIv W c s → gI3 c s → gI4 W c → PSg T t W m (c0X T t W) s0X c s → cxI c ≤ t → crC T t (cxI c) = 0 → X 48 [some (aR 2), some (aR 1), some (aI (nI t)), some (aI 1), some (aI i)] [] N := by
    intro W N c s m i h1 h2 hW F1 hL hV hV3 hV4 hP hi h0
    have hL' := hL
    obtain ⟨l1, l2, l3, ⟨x1, x2, x3, x4, x5⟩, g1, g2, g3, g4⟩ := hL'
    have hV' := hV
    obtain ⟨v1, v2, v3, v4, v5, v6, v7, v8, v9⟩ := hV'
    refine am_run hX 2 _ _ _ _ ?_
    conv => whnf
    refine ⟨fun z => absurd z (by decide), fun _ => ?_⟩
    refine am_run hX 3 _ _ _ _ ?_
    conv => whnf
    rw [x3]
    by_cases D0 : cxD c = 0
    · rw [D0]
      refine ⟨fun _ => ?_, fun z => absurd (by decide) z⟩
      have r4 : cxR c = 4 := Decidable.byContradiction fun z => by have := v8 z; omega
      have G : txG T t W c s := ⟨h1, h2, hW, ⟨m, hP⟩, h0, D0⟩
      by_cases f0 : cxF c = 0
      · have l19 : N.1 2 19 = 0 := by rw [l2.1, f0]; rfl
        have five : ¬ okL (gO s) → ∀ (v3 v4 : Int32), X 106 [some (aR 2), some (aR 1), some (aI (nI t)), some (aI v3), some (aI v4)] [] N := by
          intro nk v3 v4
          refine am_run hX 3 _ _ _ _ ?_
          conv => whnf
          generalize hN1 : mm_i N 2 _ = N1
          have E1 : r2F [19] N N1 := by rw [← hN1]; exact r2F_u N _ rfl
          have a19 : N1.1 2 19 = 5 := by rw [← hN1]; exact r2_at _ _ _
          refine am_run hX 1 _ _ _ _ ?_
          conv => whnf
          exact ⟨trivial, rfl, rdF_t F1 (rdF_2 E1), Or.inr ⟨W, c, s, G, by rw [E1.2.1 10 rfl]; exact x1, opC_2 rfl E1 g1, hV, hV3, r4, hV4 r4, l2.2, Or.inr (Or.inr ⟨f0, nk, a19⟩)⟩⟩
        refine am_run hX 3 _ _ _ _ ?_
        conv => whnf
        rw [l19]
        refine ⟨fun z => absurd rfl z, fun _ => ?_⟩
        refine am_run hX 4 _ _ _ _ ?_
        conv => whnf
        rw [g1.1]
        by_cases big : 300 < (gO s).length
        · exact ⟨fun _ => five (fun z => by have := z.1; omega) _ _, fun z => absurd (nI_lt (a := 300) (b := min (gO s).length 301) (by omega) (by omega)) z⟩
        · have em : min (gO s).length 301 = (gO s).length := by omega
          rw [em]
          refine ⟨fun z => absurd z (nI_nlt (a := 300) (by omega) (by decide)), fun _ => ?_⟩
          refine am_run hX 6 _ _ _ _ ?_
          conv => whnf
          rw [g1.1, em]
          refine am_c1 (ct_hs3 (d := d + 7) (M := N) (k := (gO s).length) (by omega)) ?_
          have eh : hcN (N.1 3) (gO s).length = hcl (gO s) := by
            rw [hcN_e (F := N.1 3) (G := fun j => nI (bk_p (zg (gO s) j))) (gO s).length (fun j hj => g1.2 (by omega) j hj)]
            exact hcN_l v2 (gO s) (fun j hj => ((hV3 f0).1 _ (zg_mem hj)).1)
          have hl := hcl_le (gO s)
          rw [eh]
          refine am_run hX 2 _ _ _ _ ?_
          conv => whnf
          rw [show (60 : Int32) = nI 60 from rfl]
          by_cases ok : hcl (gO s) ≤ 60
          · refine ⟨fun _ => ?_, fun z => absurd (nI_le ok (by decide)) z⟩
            refine am_run hX 1 _ _ _ _ ?_
            conv => whnf
            exact ⟨trivial, rfl, F1, Or.inr ⟨W, c, s, G, x1, g1, hV, hV3, r4, hV4 r4, l2.2, Or.inr (Or.inl ⟨f0, ⟨by omega, ok⟩, l19⟩)⟩⟩
          · exact ⟨fun z => absurd z (nI_ge (a := 60) (by omega) (by omega)), fun _ => five (fun z => ok z.2) _ _⟩
      · exact bad72 N (cxF c) _ _ f0 l2.2 l2.1 F1 (Or.inr ⟨W, c, s, G, x1, g1, hV, hV3, r4, hV4 r4, l2.2, Or.inl ⟨f0, l2.1⟩⟩)
    · refine ⟨fun z => absurd z (nI_ge (a := 0) (b := cxD c) (by omega) (by omega)), fun _ => ?_⟩
      refine am_run hX 4 _ _ _ _ ?_
      conv => whnf
      rw [l1.2.2.1]
      generalize hN1 : mm_i N 2 _ = N1
      have E1 : r2F [9] N N1 := by rw [← hN1]; exact r2F_u N _ rfl
      have a9 : N1.1 2 9 = nI t := by rw [← hN1]; exact r2_at _ _ _
      refine am_run hX 2 _ _ _ _ ?_
      conv => whnf
      refine am_cq (ct_brok (d := d + 8) a9) ?_
      rintro r2 N2 ⟨rfl, f2, e2⟩
      refine ⟨_, rfl, ?_⟩
      refine am_run hX 1 _ _ _ _ ?_
      conv => whnf
      have tR : txR T t t := Or.inr (Or.inr ⟨h1, h2, by rw [← hW]; exact ⟨m, c, PSg_n m hP, tk_0 hT3 h0 hi, Or.inr D0⟩⟩)
      exact bad72 N2 (8 * t + 1) _ _ (by omega) (by omega) e2 (rdF_t F1 (rdF_t (rdF_2 E1) (rdF_2 f2))) (Or.inl ⟨t, tR, Nat.le_refl _, e2⟩)
  have loop : ∀ (W n : Nat) (N : mm_M) (c : CX) (s : GS) (m i : Nat), t - cxI c ≤ n → (49 ≤ crC T t 0 ∧ crC T t 0 ≤ 56) → crC T t (crA T t 0) = 58 → W = crC T t 0 - 48 → rdF M N → CLr N T t W c s → gIv W c s → gI2 c s → gI3 c s → gI4 W c → PSg T t W m (c0X T t W) s0X c s → cxI c ≤ t → i ≤ cxI c → N.1 2 8 = nI (cxI c) → X 14 [some (aR 2), some (aR 1), some (aI (nI t)), some (aI 1), some (aI (nI i))] [] N := by
    intro W n
    induction n with
    | zero =>
      intro N c s m i hn h1 h2 hW F1 hL hV hV2 hV3 hV4 hP hi hii h8
      have ei : cxI c = t := by omega
      have cz : crC T t (cxI c) = 0 := by
        rw [ei]
        exact (cr0_1 (T := T) (Nat.le_refl t) (by have := crp_1 (T := T) (Nat.le_refl t); omega)).2.1
      have k48 := fin W N c s m (nI i) h1 h2 hW F1 hL hV hV3 hV4 hP hi cz
      refine am_run hX 3 _ _ _ _ ?_
      conv => whnf
      refine ⟨fun _ => k48, fun _ => ?_⟩
      refine am_run hX 2 _ _ _ _ ?_
      conv => whnf
      refine ⟨fun z => absurd z (by decide), fun _ => ?_⟩
      refine am_run hX 2 _ _ _ _ ?_
      conv => whnf
      refine am_c1 (ct_peek (d := d + 8) hL.1 hi h8) ?_
      rw [cz]
      refine am_run hX 1 _ _ _ _ ?_
      conv => whnf
      exact ⟨fun _ => k48, fun z => absurd rfl z⟩
    | succ n ih =>
      intro N c s m i hn h1 h2 hW F1 hL hV hV2 hV3 hV4 hP hi hii h8
      by_cases cz : crC T t (cxI c) = 0
      · have k48 := fin W N c s m (nI i) h1 h2 hW F1 hL hV hV3 hV4 hP hi cz
        refine am_run hX 3 _ _ _ _ ?_
        conv => whnf
        refine ⟨fun _ => k48, fun _ => ?_⟩
        refine am_run hX 2 _ _ _ _ ?_
        conv => whnf
        refine ⟨fun z => absurd z (by decide), fun _ => ?_⟩
        refine am_run hX 2 _ _ _ _ ?_
        conv => whnf
        refine am_c1 (ct_peek (d := d + 8) hL.1 hi h8) ?_
        rw [cz]
        refine am_run hX 1 _ _ _ _ ?_
        conv => whnf
        exact ⟨fun _ => k48, fun z => absurd rfl z⟩
      · have pl := crn_1 cz
        have pp := crp_1 (T := T) hi
        have i4 : i < 400 := by omega
        have ch := crc_d hL.1 (cxI c)
        refine am_run hX 3 _ _ _ _ ?_
        conv => whnf
        refine ⟨fun z => absurd z (nI_ge (a := i) (b := 400) i4 (by decide)), fun _ => ?_⟩
        refine am_run hX 2 _ _ _ _ ?_
        conv => whnf
        refine ⟨fun z => absurd z (by decide), fun _ => ?_⟩
        refine am_run hX 2 _ _ _ _ ?_
        conv => whnf
        refine am_c1 (ct_peek (d := d + 8) hL.1 hi h8) ?_
        refine am_run hX 1 _ _ _ _ ?_
        conv => whnf
        refine ⟨fun z => absurd z (nI_ne0 (by omega) (by omega)), fun _ => ?_⟩
        refine am_run hX 3 _ _ _ _ ?_
        conv => whnf
        refine am_cq (ct_take5 (d := d + 8) hL.1 hi h8) ?_
        rintro r1 N1 ⟨rfl, f1, m8, m9⟩
        refine ⟨_, rfl, ?_⟩
        refine am_run hX 1 _ _ _ _ ?_
        conv => whnf
        refine am_cq (ct_stm (d := d + 1) (M := N1) (CLr_f f1 hL) hV hV2 hi m8 m9) ?_
        intro r2 N2 q2
        generalize hz : tkE T t W c = z at q2
        cases z with
        | inl q =>
          obtain ⟨rfl, e2, F2⟩ := q2
          refine ⟨_, rfl, ?_⟩
          refine am_run hX 3 _ _ _ _ ?_
          conv => whnf
          have tR : txR T t q := Or.inr (Or.inr ⟨h1, h2, by rw [← hW]; exact ⟨m, c, PSg_n m hP, hz, Or.inl cz⟩⟩)
          have qt : q ≤ t := tk_le hi hz
          exact no N2 q _ tR qt e2 (rdF_t F1 (rdF_t (rdF_2 f1) F2))
        | inr y =>
          obtain ⟨e, c1⟩ := y
          obtain ⟨rfl, F2, ⟨n8, nt⟩, L2⟩ := q2
          refine ⟨_, rfl, ?_⟩
          refine am_run hX 3 _ _ _ _ ?_
          conv => whnf
          rw [nI_1]
          obtain ⟨_, p1, p2⟩ := tk_k hT hi hz
          obtain ⟨w1, w2⟩ := gI_s hT hi hz hV hV2
          exact ih N2 c1 _ (m + 1) (i + 1) (by omega) h1 h2 hW (rdF_t F1 (rdF_t (rdF_2 f1) F2)) L2 w1 w2 (gJ_s hT hi hz hV hV2 hV3) (gK_s hT hi hz hV4) (PSg_e m hP hz) p2 (by omega) n8
  refine am_run hX 4 _ _ _ _ ?_
  conv => whnf
  refine am_cq (ct_stO (d := d + 7) (M := M) (t := t)) ?_
  rintro r1 N1 ⟨rfl, ⟨k1, k2⟩, ⟨a6, a7, a8, a12, a13, a14, a15, a16, a19⟩, a0⟩
  refine ⟨_, rfl, ?_⟩
  have X1 : rdX N1 T t := ⟨t4, a6, a7, fun j hj => by rw [k1 1 (by decide) (by decide)]; exact hc j hj⟩
  have G1 : rdF M N1 := ⟨fun k hk => k1 k (by omega) (by omega), k2⟩
  refine am_run hX 2 _ _ _ _ ?_
  conv => whnf
  refine am_cq (ct_rdW (d := d + 7) X1 a8) ?_
  rintro r2 N2 ⟨F2, P⟩
  have G2 : rdF M N2 := rdF_t G1 (rdF_2 F2)
  have z0 := Nat.zero_le t
  have ca := cra_1 (T := T) z0
  rcases P with ⟨p1, rfl, p3⟩ | ⟨p1, p2, rfl, p3⟩ | ⟨p1, p2, rfl, p4, p5, p6, p7⟩
  · refine ⟨_, rfl, ?_⟩
    refine am_run hX 3 _ _ _ _ ?_
    conv => whnf
    exact no N2 _ _ (Or.inl ⟨p1, rfl⟩) (crp_1 z0).2 p3 G2
  · refine ⟨_, rfl, ?_⟩
    refine am_run hX 3 _ _ _ _ ?_
    conv => whnf
    exact no N2 _ _ (Or.inr (Or.inl ⟨p1, p2, rfl⟩)) (crp_1 ca.2.1).2 p3 G2
  · refine ⟨_, rfl, ?_⟩
    refine am_run hX 3 _ _ _ _ ?_
    conv => whnf
    have W8 : crC T t 0 - 48 ≤ 8 := by omega
    refine loop (crC T t 0 - 48) t N2 (c0X T t (crC T t 0 - 48)) s0X 0 0 (Nat.sub_le _ _) p1 p2 rfl G2 ?_ ?_ ?_ ?_ (fun _ => rfl) ⟨rfl, rfl⟩ (cra_1 (T := T) ca.2.1).2.1 (Nat.zero_le _) p5
    · refine ⟨rdX_f ⟨rfl, rfl⟩ F2 X1, ⟨by rw [p4, a19]; rfl, (by decide : 0 < 2 ^ 20)⟩, by rw [F2.2.1 16 rfl, a16]; rfl, ⟨p6, p7, by rw [F2.2.1 13 rfl, a13]; rfl, by rw [F2.2.1 15 rfl, a15]; rfl, fun l hl => by rw [F2.1 6 (by decide), a0 l hl]; rfl⟩, ⟨by rw [F2.2.1 12 rfl, a12]; rfl, fun _ j hj => absurd hj (Nat.not_lt_zero _)⟩, by rw [F2.2.1 14 rfl, a14]; rfl, fun j hj => absurd hj (Nat.not_lt_zero _), fun l hl ht => absurd rfl ht⟩
    · exact ⟨W8, W8, (by decide : 0 ≤ 8), (by decide : 4 ≤ 4), fun _ => (by decide : 0 ≤ 4), ⟨(by decide : 0 < 16), (by decide : 0 < 16)⟩, fun j hj => absurd hj (Nat.not_lt_zero _), fun z => absurd rfl z, fun _ _ => rfl⟩
    · exact ⟨fun _ => ⟨fun l hl ht => absurd rfl ht, fun z => absurd rfl z⟩, fun _ _ => ⟨rfl, rfl⟩, fun z => absurd rfl z⟩
    · exact fun _ => ⟨fun x hx => absurd hx List.not_mem_nil, fun l hl ht => absurd rfl ht⟩
end CRU
