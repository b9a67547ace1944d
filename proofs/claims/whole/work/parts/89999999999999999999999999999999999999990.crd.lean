/-! circuit: the class reads CONTROLS and WIRES -/
def mskL (cs : List Nat) : Nat := cs.foldl (fun a w => a ||| 2 ^ w) 0
theorem msk_a (cs : List Nat) (w : Nat) : mskL (cs ++ [w]) = mskL cs ||| 2 ^ w := by
  unfold mskL
  rw [List.foldl_append]
  rfl
def bckN (b : Bool) : Nat := if b = true then 65536 else 0
theorem ntF_0 {f p k : Nat} (hk : 0 < k) : ntF f p k ≠ 0 := by
  unfold ntF
  split <;> omega
theorem twF_0 {fr sn f p w : Nat} (h : twF fr sn f p w = 0) : f = 0 ∧ w < fr ∧ sn.testBit w = false := by
  unfold twF at h
  by_cases a : fr ≤ w
  · rw [if_pos a] at h
    exact absurd h (ntF_0 (by decide))
  · rw [if_neg a] at h
    cases b : sn.testBit w with
    | true =>
      rw [b, if_pos rfl] at h
      exact absurd h (ntF_0 (by decide))
    | false =>
      rw [b, if_neg (by decide)] at h
      exact ⟨h, by omega, rfl⟩
/-- what is known while a STATEMENT is read: the next place, the place, WIRES, the FAULT, those that were told -/
def rsI (M : mm_M) (T : Nat → Nat) (t i p fr f sn : Nat) : Prop := rdX M T t ∧ (M.1 2 8 = nI i ∧ i ≤ t) ∧ (M.1 2 9 = nI p ∧ p ≤ t) ∧ (M.1 2 11 = nI fr ∧ fr ≤ 8) ∧ (M.1 2 19 = nI f ∧ f < 2 ^ 20) ∧ M.1 2 18 = nI sn ∧ sn < 2 ^ 10
section CRE
variable {d : Nat} {M : mm_M} {T : Nat → Nat} {t : Nat}
theorem crc_d (hT : rdX M T t) (i : Nat) : crC T t i < 127 := crc_1 (fun j hj => (hT.2.2.2 j hj).2.2)
/-- one char more -/
theorem rs_take {i p fr f sn : Nat} (h : rsI M T t i p fr f sn) : am_M (d + 1) false nm_X5_take [aR 2] M (fun r N => r = .inl (some (aI (nI (crC T t i)))) ∧ r2F [8, 9] M N ∧ rsI N T t (crA T t i) (crP T t i) fr f sn) := by
  obtain ⟨h1, ⟨h2, h2'⟩, _, ⟨h4, h4'⟩, ⟨h5, h5'⟩, h6, h6'⟩ := h
  refine am_wk (ct_take5 (d := d) h1 h2' h2) fun r N q => ⟨q.1, q.2.1, ?_⟩
  have F := q.2.1
  exact ⟨rdX_f ⟨rfl, rfl⟩ F h1, ⟨q.2.2.1, (cra_1 h2').2.1⟩, ⟨q.2.2.2, (crp_1 h2').2⟩, ⟨by rw [F.2.1 11 rfl]; exact h4, h4'⟩, ⟨by rw [F.2.1 19 rfl]; exact h5, h5'⟩, by rw [F.2.1 18 rfl]; exact h6, h6'⟩
/-- one WIRE is told -/
theorem rs_tell {c i p fr f sn : Nat} (hc : isDg c = true) (h : rsI M T t i p fr f sn) : am_M (d + 2) false nm_X5_tellWire [aR 2, aI (nI c)] M (fun r N => r = .inl (some (aI (nI (2 ^ (c - 48))))) ∧ r2F [18, 19] M N ∧ rsI N T t i p fr (twF fr sn f p (c - 48)) (sn ||| 2 ^ (c - 48))) := by
  obtain ⟨h1, ⟨h2, h2'⟩, ⟨h3, h3'⟩, ⟨h4, h4'⟩, ⟨h5, h5'⟩, h6, h6'⟩ := h
  have t4 := h1.1
  refine am_wk (ct_tellW (d := d) hc h4 h4' h6 h6' h5 h5' h3 (by omega)) fun r N q => ⟨q.1, q.2.1, ?_⟩
  have F := q.2.1
  exact ⟨rdX_f ⟨rfl, rfl⟩ F h1, ⟨by rw [F.2.1 8 rfl]; exact h2, h2'⟩, ⟨by rw [F.2.1 9 rfl]; exact h3, h3'⟩, ⟨by rw [F.2.1 11 rfl]; exact h4, h4'⟩, ⟨q.2.2.2.1, twF_l h5' (by omega)⟩, q.2.2.1, q.2.2.2.2⟩
/-- it is no TEXT -/
theorem rs_bad {i p fr f sn : Nat} (h : rsI M T t i p fr f sn) : am_M (d + 1) false nm_X5_broken [aR 2] M (fun r N => r = .inl (some (aI 0)) ∧ r2F [19] M N ∧ N.1 2 19 = nI (8 * p + 1)) := ct_brok h.2.2.1.1
/-- what CONTROLS come to -/
def pfQ (M : mm_M) (T : Nat → Nat) (t fr : Nat) (z : Nat ⊕ (Nat × Nat × Nat × Nat × Nat × List Nat × Bool)) (r : am_R) (N : mm_M) : Prop := r2F [8, 9, 17, 18, 19] M N ∧ match z with
  | .inl q => r = .inl (some (aI 0)) ∧ ∃ i f sn, rsI N T t i q fr f sn
  | .inr (h, p, i, f, sn, cs, bk) => r = .inl (some (aI (nI h))) ∧ h < 127 ∧ rsI N T t i p fr f sn ∧ N.1 2 17 = nI (mskL cs + bckN bk) ∧ mskL cs < 2 ^ 10 ∧ (f = 0 → ∀ w ∈ cs, w < fr)
set_option maxRecDepth 100000 in
theorem pfx_l {P : am_Q} {X : am_X} {fr : Nat} {v1 : Int32} (hX : am_K (d + 2) false nm_X5_readPrefix P X) (K : Nat ⊕ (Nat × Nat × Nat × Nat × Nat × List Nat × Bool)) (hK : ∀ r N, pfQ M T t fr K r N → P r N) : ∀ (m c p i f sn : Nat) (cs : List Nat) (N : mm_M), m ≤ 400 → 2 * (400 - m) ≤ i → c < 127 → r2F [8, 9, 17, 18, 19] M N → rsI N T t i p fr f sn → N.1 2 17 = nI (mskL cs) → mskL cs < 2 ^ 10 → (f = 0 → ∀ w ∈ cs, w < fr) → pfx T t fr m c p i f sn cs = K → X 14 [some (aR 2), some (aI v1), some (aI (nI c)), some (aI (nI (400 - m)))] [] N := by
  intro m
  induction m with
  | zero =>
    intro c p i f sn cs N _ hi _ _ hI _ _ _ _
    have := hI.1.1
    have := hI.2.1.2
    omega
  | succ m ih =>
    intro c p i f sn cs N hm hi hc hF hI h17 hl hcs hz
    have t4 := hI.1.1
    have it := hI.2.1.2
    have ez : pfx T t fr (m + 1) c p i f sn cs = if isDg c = true then (if crC T t i = 62 then pfx T t fr m (crC T t (crA T t i)) (crP T t (crA T t i)) (crA T t (crA T t i)) (twF fr sn f p (c - 48)) (sn ||| 2 ^ (c - 48)) (cs ++ [c - 48]) else .inl (crP T t i)) else if c = 45 then .inr (crC T t i, crP T t i, crA T t i, f, sn, cs, true) else .inr (c, p, i, f, sn, cs, false) := rfl
    rw [ez] at hz
    refine am_run hX 3 _ _ _ _ ?_
    conv => whnf
    refine ⟨fun z => absurd z (nI_ge (a := 400 - (m + 1)) (b := 400) (by omega) (by decide)), fun _ => ?_⟩
    refine am_run hX 2 _ _ _ _ ?_
    conv => whnf
    refine am_c1 (ct_isD5 (d := d + 1) hc) ?_
    refine am_run hX 1 _ _ _ _ ?_
    conv => whnf
    cases hd : isDg c with
    | true =>
      rw [hd, if_pos rfl] at hz
      refine ⟨fun z => absurd z (by decide), fun _ => ?_⟩
      obtain ⟨c1, c2⟩ := isDg_w hd
      refine am_run hX 6 _ _ _ _ ?_
      conv => whnf
      refine am_cq (rs_tell (d := d) hd hI) ?_
      rintro r1 N1 ⟨rfl, f1, i1⟩
      refine ⟨_, rfl, ?_⟩
      refine am_run hX 2 _ _ _ _ ?_
      conv => whnf
      rw [h17, nI_or, ← msk_a]
      generalize hN2 : mm_i N1 2 _ = N2
      have F2 : r2F [17] N1 N2 := by rw [← hN2]; exact r2F_u N1 _ rfl
      have e17 : N2.1 2 17 = nI (mskL (cs ++ [c - 48])) := by rw [← hN2]; exact r2_at _ _ _
      have i2 : rsI N2 T t i p fr (twF fr sn f p (c - 48)) (sn ||| 2 ^ (c - 48)) := by
        obtain ⟨a1, ⟨a2, a2'⟩, ⟨a3, a3'⟩, ⟨a4, a4'⟩, ⟨a5, a5'⟩, a6, a6'⟩ := i1
        exact ⟨rdX_f ⟨rfl, rfl⟩ F2 a1, ⟨by rw [F2.2.1 8 rfl]; exact a2, a2'⟩, ⟨by rw [F2.2.1 9 rfl]; exact a3, a3'⟩, ⟨by rw [F2.2.1 11 rfl]; exact a4, a4'⟩, ⟨by rw [F2.2.1 19 rfl]; exact a5, a5'⟩, by rw [F2.2.1 18 rfl]; exact a6, a6'⟩
      have G2 : r2F [8, 9, 17, 18, 19] M N2 := r2F_t hF (r2F_t (r2F_w (by decide) f1) (r2F_w (by decide) F2))
      refine am_run hX 2 _ _ _ _ ?_
      conv => whnf
      refine am_cq (rs_take (d := d + 1) i2) ?_
      rintro r3 N3 ⟨rfl, f3, i3⟩
      refine ⟨_, rfl, ?_⟩
      have G3 : r2F [8, 9, 17, 18, 19] M N3 := r2F_t G2 (r2F_w (by decide) f3)
      have ch := crc_d i2.1 i
      refine am_run hX 2 _ _ _ _ ?_
      conv => whnf
      rw [show (62 : Int32) = nI 62 from rfl, nI_eq (by omega) (by decide)]
      by_cases q : crC T t i = 62
      · rw [if_pos q] at hz
        refine ⟨fun _ => ?_, fun z => absurd q z⟩
        refine am_run hX 2 _ _ _ _ ?_
        conv => whnf
        refine am_cq (rs_take (d := d + 1) i3) ?_
        rintro r4 N4 ⟨rfl, f4, i4⟩
        refine ⟨_, rfl, ?_⟩
        refine am_run hX 3 _ _ _ _ ?_
        conv => whnf
        rw [nI_1, show 400 - (m + 1) + 1 = 400 - m by omega]
        have p1 := crn_1 (T := T) (t := t) (i := i) (by rw [q]; decide)
        have a1 := (cra_1 (T := T) it).2.2 p1
        have a2 := (cra_1 (T := T) it).2.1
        have a3 := (cra_1 (T := T) a2).1
        by_cases p2 : crP T t (crA T t i) < t
        · have a4 := (cra_1 (T := T) a2).2.2 p2
          refine ih _ _ _ _ _ _ N4 (by omega) (by omega) (crc_d i4.1 _) (r2F_t G3 (r2F_w (by decide) f4)) i4 (by rw [f4.2.1 17 rfl, f3.2.1 17 rfl]; exact e17) ?_ ?_ hz
          · rw [msk_a]
            exact Nat.or_lt_two_pow hl (Nat.pow_lt_pow_right (by decide) (by omega))
          · intro h0 w hw
            obtain ⟨z1, z2, _⟩ := twF_0 h0
            rcases List.mem_append.mp hw with y | y
            · exact hcs z1 w y
            · rw [List.mem_singleton.mp y]
              exact z2
        · obtain ⟨q1, q2, q3⟩ := cr0_1 (T := T) a2 p2
          have em : pfx T t fr m (crC T t (crA T t i)) (crP T t (crA T t i)) (crA T t (crA T t i)) (twF fr sn f p (c - 48)) (sn ||| 2 ^ (c - 48)) (cs ++ [c - 48]) = .inr (crC T t (crA T t i), crP T t (crA T t i), crA T t (crA T t i), twF fr sn f p (c - 48), sn ||| 2 ^ (c - 48), cs ++ [c - 48], false) := by
            rw [q2]
            cases m with
            | zero => rfl
            | succ m =>
              show (if isDg 0 = true then _ else if (0 : Nat) = 45 then _ else _) = _
              rw [if_neg (by decide), if_neg (by decide)]
          rw [em] at hz
          subst hz
          rw [q2]
          have mm : m ≤ 400 := by omega
          -- behind the last char
          have fin : X 64 [some (aR 2), some (aI v1), some (aI (nI 0)), some (aI (nI (400 - m)))] [] N4 := by
            refine am_run hX 3 _ _ _ _ ?_
            conv => whnf
            refine ⟨fun _ => ?_, fun z => absurd (by decide) z⟩
            refine am_run hX 2 _ _ _ _ ?_
            conv => whnf
            refine ⟨rfl, hK _ _ ⟨r2F_t G3 (r2F_w (by decide) f4), ?_⟩⟩
            rw [q2]
            refine ⟨rfl, by decide, i4, ?_, ?_, ?_⟩
            · rw [f4.2.1 17 rfl, f3.2.1 17 rfl]
              exact e17
            · rw [msk_a]
              exact Nat.or_lt_two_pow hl (Nat.pow_lt_pow_right (by decide) (by omega))
            · intro h0 w hw
              obtain ⟨z1, z2, _⟩ := twF_0 h0
              rcases List.mem_append.mp hw with y | y
              · exact hcs z1 w y
              · rw [List.mem_singleton.mp y]
                exact z2
          refine am_run hX 3 _ _ _ _ ?_
          conv => whnf
          by_cases mz : m = 0
          · subst mz
            exact ⟨fun _ => fin, fun z => absurd (by decide) z⟩
          · refine ⟨fun z => absurd z (nI_ge (a := 400 - m) (b := 400) (by omega) (by decide)), fun _ => ?_⟩
            refine am_run hX 2 _ _ _ _ ?_
            conv => whnf
            refine am_c1 (ct_isD5 (d := d + 1) (c := 0) (by decide)) ?_
            refine am_run hX 1 _ _ _ _ ?_
            conv => whnf
            exact ⟨fun _ => fin, fun z => absurd rfl z⟩
      · rw [if_neg q] at hz
        subst hz
        refine ⟨fun z => absurd z q, fun _ => ?_⟩
        refine am_run hX 2 _ _ _ _ ?_
        conv => whnf
        exact ⟨rfl, hK _ _ ⟨G3, rfl, _, _, _, i3⟩⟩
    | false =>
      rw [hd, if_neg (by decide)] at hz
      refine ⟨fun _ => ?_, fun z => absurd rfl z⟩
      refine am_run hX 3 _ _ _ _ ?_
      conv => whnf
      rw [show (45 : Int32) = nI 45 from rfl, nI_eq (by omega) (by decide)]
      by_cases q : c = 45
      · rw [if_pos q] at hz
        subst hz
        refine ⟨fun z => absurd q z, fun _ => ?_⟩
        refine am_run hX 6 _ _ _ _ ?_
        conv => whnf
        rw [h17, show (65536 : Int32) = nI 65536 from rfl, nI_or, show mskL cs ||| 65536 = mskL cs + 65536 from by
          have := or_sh (k := 16) (a := mskL cs) (b := 1) (by omega)
          rw [Nat.one_mul] at this
          exact this]
        generalize hN2 : mm_i N 2 _ = N2
        have F2 : r2F [17] N N2 := by rw [← hN2]; exact r2F_u N _ rfl
        have e17 : N2.1 2 17 = nI (mskL cs + 65536) := by rw [← hN2]; exact r2_at _ _ _
        have i2 : rsI N2 T t i p fr f sn := by
          obtain ⟨a1, ⟨a2, a2'⟩, ⟨a3, a3'⟩, ⟨a4, a4'⟩, ⟨a5, a5'⟩, a6, a6'⟩ := hI
          exact ⟨rdX_f ⟨rfl, rfl⟩ F2 a1, ⟨by rw [F2.2.1 8 rfl]; exact a2, a2'⟩, ⟨by rw [F2.2.1 9 rfl]; exact a3, a3'⟩, ⟨by rw [F2.2.1 11 rfl]; exact a4, a4'⟩, ⟨by rw [F2.2.1 19 rfl]; exact a5, a5'⟩, by rw [F2.2.1 18 rfl]; exact a6, a6'⟩
        refine am_run hX 2 _ _ _ _ ?_
        conv => whnf
        refine am_cq (rs_take (d := d + 1) i2) ?_
        rintro r3 N3 ⟨rfl, f3, i3⟩
        refine ⟨_, rfl, ?_⟩
        refine am_run hX 3 _ _ _ _ ?_
        conv => whnf
        have ch := crc_d i2.1 i
        refine ⟨na_v ch, hK _ _ ⟨r2F_t hF (r2F_t (r2F_w (by decide) F2) (r2F_w (by decide) f3)), rfl, ch, i3, ?_, hl, hcs⟩⟩
        rw [f3.2.1 17 rfl]
        exact e17
      · rw [if_neg q] at hz
        subst hz
        refine ⟨fun _ => ?_, fun z => absurd q z⟩
        refine am_run hX 2 _ _ _ _ ?_
        conv => whnf
        exact ⟨na_v hc, hK _ _ ⟨hF, rfl, hc, hI, h17, hl, hcs⟩⟩
end CRE
