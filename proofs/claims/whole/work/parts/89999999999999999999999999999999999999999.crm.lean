/-! circuit: the class reads a USE's WIRES -/
/-- what a USE may change -/
def ruF (M N : mm_M) : Prop := (∀ k, k ≠ 2 → k ≠ 8 → N.1 k = M.1 k) ∧ (∀ y, [8, 9, 16, 18, 19].contains y = false → N.1 2 y = M.1 2 y) ∧ N.2 = M.2
theorem ruF_r (M : mm_M) : ruF M M := ⟨fun _ _ _ => rfl, fun _ _ => rfl, rfl⟩
theorem ruF_t {M N K : mm_M} (h : ruF M N) (g : ruF N K) : ruF M K := ⟨fun k a b => (g.1 k a b).trans (h.1 k a b), fun y a => (g.2.1 y a).trans (h.2.1 y a), g.2.2.trans h.2.2⟩
theorem ruF_2 {S : List Nat} {M N : mm_M} (hs : ∀ y ∈ S, [8, 9, 16, 18, 19].contains y = true) (h : r2F S M N) : ruF M N := ⟨fun k a _ => h.1 k a, fun y hy => (r2F_w hs h).2.1 y hy, h.2.2⟩
theorem ruF_8 (M : mm_M) (f : Nat → Int32) : ruF M (mm_i M 8 f) := ⟨fun k _ b => mm_ne _ _ _ _ b, fun y _ => by rw [mm_ne _ _ _ _ (by decide)], rfl⟩
/-- what a USE's WIRES come to -/
def ruQ (M : mm_M) (T : Nat → Nat) (t : Nat) (c : CX) (l f : Nat) (Q : Nat × Nat × List Nat) (r : am_R) (N : mm_M) : Prop := ruF M N ∧ if crC T t Q.1 = 59 ∧ (cxT c l = 0 ∨ Q.2.2.length = cxT c l) then r = .inl (some (aI 1)) ∧ (N.1 2 8 = nI (crA T t Q.1) ∧ crA T t Q.1 ≤ t) ∧ (N.1 2 19 = nI Q.2.1 ∧ Q.2.1 < 2 ^ 20) ∧ N.1 2 16 = b01 (cxA c || decide (cxR c = 4)) ∧ (∀ j, j < Q.2.2.length → N.1 8 j = nI (Q.2.2.getD j 0)) ∧ (Q.2.1 = 0 → f = 0 ∧ cxT c l ≠ 0 ∧ ∀ w ∈ Q.2.2, w < cxW c) else r = .inl (some (aI 0)) ∧ N.1 2 19 = nI (8 * crP T t Q.1 + 1)
theorem rsI_8 {M : mm_M} {T : Nat → Nat} {t i p fr f sn : Nat} (g : Nat → Int32) (h : rsI M T t i p fr f sn) : rsI (mm_i M 8 g) T t i p fr f sn := by
  obtain ⟨a1, ⟨a2, a2'⟩, ⟨a3, a3'⟩, ⟨a4, a4'⟩, ⟨a5, a5'⟩, a6, a6'⟩ := h
  have e : (mm_i M 8 g).1 2 = M.1 2 := mm_ne _ _ _ _ (by decide)
  refine ⟨rdX_e (by rw [e]) (by rw [e]) (mm_ne _ _ _ _ (by decide)) a1, ⟨by rw [e]; exact a2, a2'⟩, ⟨by rw [e]; exact a3, a3'⟩, ⟨by rw [e]; exact a4, a4'⟩, ⟨by rw [e]; exact a5, a5'⟩, by rw [e]; exact a6, a6'⟩
section CRO
variable {d : Nat} {M : mm_M} {T : Nat → Nat} {t W : Nat} {c : CX} {s : GS}
set_option maxRecDepth 200000 in
theorem ct_rdU {l sg dc i p f sn : Nat} (hl : l < 4) (hsg : sg ≤ 400) (hdc : isDg dc = true) (ht : M.1 6 l = nI (cxT c l)) (ht4 : cxT c l ≤ 4) (hI : rsI M T t i p (cxW c) f sn) (h16 : M.1 2 16 = b01 (cxA c)) (h15 : M.1 2 15 = if cxR c = 4 then -1 else nI (cxR c)) (hr : cxR c ≤ 4) : am_M (d + 3) false nm_X5_readUse [aR 2, aI (nI l), aI (nI sg), aI (nI dc)] M (ruQ M T t c l f (usQ T t c l sg (dc - 48) p i f sn)) := by
  obtain ⟨dc1, dc2⟩ := isDg_w hdc
  refine ⟨rfl, rfl, rfl, fun X hX => ?_⟩
  generalize hQ : usQ T t c l sg (dc - 48) p i f sn = Q at hX
  have ed : ∀ v, 48 ≤ v → nI v - 48 = nI (v - 48) := fun v hv => by rw [show (48 : Int32) = nI 48 from rfl, nI_sub (by omega)]
  -- behind the WIRES
  have fin : ∀ (N : mm_M) (i' f' sn' : Nat) (ws : List Nat) (v5 : Int32), (i', f', ws) = Q → ruF M N → rsI N T t (crA T t i') (crP T t i') (cxW c) f' sn' → N.1 2 16 = b01 (cxA c || decide (cxR c = 4)) → (∀ j, j < ws.length → N.1 8 j = nI (ws.getD j 0)) → ws.length ≤ 4 → (f' = 0 → f = 0 ∧ cxT c l ≠ 0 ∧ ∀ w ∈ ws, w < cxW c) → X 127 [some (aR 2), some (aI (nI l)), some (aI (nI sg)), some (aI (nI dc)), some (aI (nI (cxT c l))), some (aI v5), some (aI (nI (crC T t i'))), some (aI (nI ws.length))] [] N := by
    intro N i' f' sn' ws v5 eQ F hN n16 n8 wl h0
    subst eQ
    have ch := crc_d hN.1 i'
    have good : crC T t i' = 59 ∧ (cxT c l = 0 ∨ ws.length = cxT c l) → X 153 [some (aR 2), some (aI (nI l)), some (aI (nI sg)), some (aI (nI dc)), some (aI (nI (cxT c l))), some (aI v5), some (aI (nI (crC T t i'))), some (aI (nI ws.length))] [] N := by
      intro ok
      refine am_run hX 3 _ _ _ _ ?_
      conv => whnf
      refine ⟨rfl, F, ?_⟩
      rw [if_pos ok]
      exact ⟨rfl, hN.2.1, hN.2.2.2.2.1, n16, n8, h0⟩
    have bad : ¬ (crC T t i' = 59 ∧ (cxT c l = 0 ∨ ws.length = cxT c l)) → X 146 [some (aR 2), some (aI (nI l)), some (aI (nI sg)), some (aI (nI dc)), some (aI (nI (cxT c l))), some (aI v5), some (aI (nI (crC T t i'))), some (aI (nI ws.length))] [] N := by
      intro no
      refine am_run hX 2 _ _ _ _ ?_
      conv => whnf
      refine am_cq (rs_bad (d := d + 1) hN) ?_
      rintro r2 N2 ⟨rfl, f2, e2⟩
      refine ⟨_, rfl, ?_⟩
      refine am_run hX 1 _ _ _ _ ?_
      conv => whnf
      refine ⟨fun _ => ?_, fun z => absurd rfl z⟩
      refine am_run hX 2 _ _ _ _ ?_
      conv => whnf
      refine ⟨rfl, ruF_t F (ruF_2 (by decide) f2), ?_⟩
      rw [if_neg no]
      exact ⟨rfl, e2⟩
    refine am_run hX 3 _ _ _ _ ?_
    conv => whnf
    rw [show (59 : Int32) = nI 59 from rfl, nI_eq (by omega) (by decide)]
    by_cases q : crC T t i' = 59
    · refine ⟨fun z => absurd q z, fun _ => ?_⟩
      refine am_run hX 2 _ _ _ _ ?_
      conv => whnf
      by_cases q2 : cxT c l = 0
      · have g := good ⟨q, Or.inl q2⟩
        rw [q2] at g ⊢
        exact ⟨fun _ => g, fun z => absurd rfl z⟩
      · refine ⟨fun z => absurd z (nI_ne0 (n := cxT c l) (by omega) (by omega)), fun _ => ?_⟩
        refine am_run hX 3 _ _ _ _ ?_
        conv => whnf
        rw [nI_eq (by omega) (by omega)]
        by_cases q3 : ws.length = cxT c l
        · exact ⟨fun _ => good ⟨q, Or.inr q3⟩, fun z => absurd q3 z⟩
        · exact ⟨fun z => absurd z q3, fun _ => bad (fun z => z.2.elim q2 q3)⟩
    · exact ⟨fun _ => bad (fun z => q z.1), fun z => absurd q z⟩
  have loop : ∀ (m i' f' sn' : Nat) (ws : List Nat) (N : mm_M), usw T t (cxW c) m i' f' sn' ws = Q → ws.length + m = (if cxT c l = 0 then 4 else cxT c l) → ruF M N → rsI N T t (crA T t i') (crP T t i') (cxW c) f' sn' → i' ≤ t → N.1 2 16 = b01 (cxA c || decide (cxR c = 4)) → (∀ j, j < ws.length → N.1 8 j = nI (ws.getD j 0)) → (f' = 0 → f = 0 ∧ cxT c l ≠ 0 ∧ ∀ w ∈ ws, w < cxW c) → X 81 [some (aR 2), some (aI (nI l)), some (aI (nI sg)), some (aI (nI dc)), some (aI (nI (cxT c l))), some (aI (nI (if cxT c l = 0 then 4 else cxT c l))), some (aI (nI (crC T t i'))), some (aI (nI ws.length))] [] N := by
    have m4 : (if cxT c l = 0 then 4 else cxT c l) ≤ 4 := by split <;> omega
    intro m
    induction m with
    | zero =>
      intro i' f' sn' ws N hu hl' F hN it n16 n8 h0
      rw [Nat.add_zero] at hl'
      refine am_run hX 3 _ _ _ _ ?_
      conv => whnf
      refine ⟨fun _ => fin N i' f' sn' ws _ hu F hN n16 n8 (by omega) h0, fun z => absurd (nI_le (by omega) (by omega)) z⟩
    | succ m ih =>
      intro i' f' sn' ws N hu hl' F hN it n16 n8 h0
      have ch := crc_d hN.1 i'
      refine am_run hX 3 _ _ _ _ ?_
      conv => whnf
      refine ⟨fun z => absurd z (nI_ge (by omega) (by omega)), fun _ => ?_⟩
      refine am_run hX 2 _ _ _ _ ?_
      conv => whnf
      refine am_c1 (ct_isD5 (d := d + 1) ch) ?_
      refine am_run hX 1 _ _ _ _ ?_
      conv => whnf
      have eu : usw T t (cxW c) (m + 1) i' f' sn' ws = if isDg (crC T t i') = true then usw T t (cxW c) m (crA T t i') (twF (cxW c) sn' f' (crP T t i') (crC T t i' - 48)) (sn' ||| 2 ^ (crC T t i' - 48)) (ws ++ [crC T t i' - 48]) else (i', f', ws) := rfl
      rw [eu] at hu
      cases hd : isDg (crC T t i') with
      | false =>
        rw [hd, if_neg (by decide)] at hu
        exact ⟨fun _ => fin N i' f' sn' ws _ hu F hN n16 n8 (by omega) h0, fun z => absurd rfl z⟩
      | true =>
        rw [hd, if_pos rfl] at hu
        obtain ⟨c1, c2⟩ := isDg_w hd
        refine ⟨fun z => absurd z (by decide), fun _ => ?_⟩
        refine am_run hX 3 _ _ _ _ ?_
        conv => whnf
        refine am_cq (rs_tell (d := d) hd hN) ?_
        rintro r1 N1 ⟨rfl, f1, i1⟩
        refine ⟨_, rfl, ?_⟩
        refine am_run hX 8 _ _ _ _ ?_
        conv => whnf
        rw [ed _ c1]
        refine ⟨vp_in_nI (by show ws.length < 4; omega) (by decide), ?_⟩
        rw [nI_clamp (n := ws.length) (by omega)]
        generalize hg : upd (N1.1 8) ws.length (nI (crC T t i' - 48)) = g
        have i2 := rsI_8 g i1
        have F2 : ruF M (mm_i N1 8 g) := ruF_t F (ruF_t (ruF_2 (by decide) f1) (ruF_8 N1 g))
        refine am_run hX 3 _ _ _ _ ?_
        conv => whnf
        rw [nI_1]
        refine am_cq (rs_take (d := d + 1) i2) ?_
        rintro r3 N3 ⟨rfl, f3, i3⟩
        refine ⟨_, rfl, ?_⟩
        refine am_run hX 2 _ _ _ _ ?_
        conv => whnf
        have it2 := (cra_1 (T := T) it).2.1
        have len : (ws ++ [crC T t i' - 48]).length = ws.length + 1 := by rw [List.length_append]; rfl
        have key := ih (crA T t i') _ _ (ws ++ [crC T t i' - 48]) N3 hu (by rw [len]; omega) (ruF_t F2 (ruF_2 (by decide) f3)) i3 it2 (by rw [f3.2.1 16 rfl, mm_ne _ _ _ _ (by decide), f1.2.1 16 rfl]; exact n16) (fun j hj => ?_) (fun z => ?_)
        · rw [len] at key
          exact key
        · rw [len] at hj
          rw [f3.1 8 (by decide), mm_i1, ← hg]
          by_cases e : j = ws.length
          · rw [e, up_at, List.getD_eq_getElem?_getD, List.getElem?_append_right (Nat.le_refl _), Nat.sub_self]
            rfl
          · rw [up_ne e, f1.1 8 (by decide), List.getD_eq_getElem?_getD, List.getElem?_append_left (by omega), ← List.getD_eq_getElem?_getD]
            exact n8 j (by omega)
        · obtain ⟨z1, z2, _⟩ := twF_0 z
          obtain ⟨y1, y2, y3⟩ := h0 z1
          refine ⟨y1, y2, fun w hw => ?_⟩
          rcases List.mem_append.mp hw with y | y
          · exact y3 w y
          · rw [List.mem_singleton.mp y]
            exact z2
  -- the first WIRE
  have first : ∀ (N : mm_M) (f' : Nat), f' = (if cxT c l = 0 then ntF f sg 4 else f) → ruF M N → rsI N T t i p (cxW c) f' sn → N.1 2 16 = b01 (cxA c || decide (cxR c = 4)) → X 56 [some (aR 2), some (aI (nI l)), some (aI (nI sg)), some (aI (nI dc)), some (aI (nI (cxT c l))), some (aI (nI (if cxT c l = 0 then 4 else cxT c l))), none, none] [] N := by
    intro N f' ef F hN n16
    refine am_run hX 3 _ _ _ _ ?_
    conv => whnf
    refine am_cq (rs_tell (d := d) hdc hN) ?_
    rintro r1 N1 ⟨rfl, f1, i1⟩
    refine ⟨_, rfl, ?_⟩
    refine am_run hX 8 _ _ _ _ ?_
    conv => whnf
    rw [ed _ dc1]
    refine ⟨vp_in_nI (n := 0) (by show 0 < 4; decide) (by decide), ?_⟩
    generalize hg : upd (N1.1 8) _ (nI (dc - 48)) = g
    have i2 := rsI_8 g i1
    have F2 : ruF M (mm_i N1 8 g) := ruF_t F (ruF_t (ruF_2 (by decide) f1) (ruF_8 N1 g))
    refine am_run hX 2 _ _ _ _ ?_
    conv => whnf
    refine am_cq (rs_take (d := d + 1) i2) ?_
    rintro r3 N3 ⟨rfl, f3, i3⟩
    refine ⟨_, rfl, ?_⟩
    refine am_run hX 3 _ _ _ _ ?_
    conv => whnf
    refine loop _ i _ _ [dc - 48] N3 (by rw [← hQ]; unfold usQ; rw [← ef]) ?_ (ruF_t F2 (ruF_2 (by decide) f3)) i3 hI.2.1.2 (by rw [f3.2.1 16 rfl, mm_ne _ _ _ _ (by decide), f1.2.1 16 rfl]; exact n16) (fun j hj => ?_) (fun z => ?_)
    · show 1 + ((if cxT c l = 0 then 4 else cxT c l) - 1) = _
      split <;> omega
    · have j0 : j = 0 := by
        have : j < 1 := hj
        omega
      rw [f3.1 8 (by decide), mm_i1, ← hg, j0]
      rfl
    · obtain ⟨z1, z2, _⟩ := twF_0 z
      by_cases q : cxT c l = 0
      · rw [ef, if_pos q] at z1
        exact absurd z1 (ntF_0 (by decide))
      · rw [ef, if_neg q] at z1
        exact ⟨z1, q, fun w hw => by rw [List.mem_singleton.mp hw]; exact z2⟩
  have body : ∀ N, r2F [16] M N → N.1 2 16 = b01 (cxA c || decide (cxR c = 4)) → X 24 [some (aR 2), some (aI (nI l)), some (aI (nI sg)), some (aI (nI dc)), none, none, none, none] [] N := by
    intro N F n16
    have hN : rsI N T t i p (cxW c) f sn := rsI_u ⟨rfl, rfl, rfl, rfl, rfl, rfl, rfl⟩ F hI
    refine am_run hX 4 _ _ _ _ ?_
    conv => whnf
    refine ⟨vp_in_nI (by show l < 4; omega) (by decide), ?_⟩
    rw [nI_clamp (n := l) (by omega), F.1 6 (by decide), ht]
    refine am_run hX 3 _ _ _ _ ?_
    conv => whnf
    by_cases q : cxT c l = 0
    · have P : ∀ N1, _ := fun N1 => first N1 (ntF f sg 4) (by rw [if_pos q])
      rw [if_pos q, q] at P
      rw [q]
      refine ⟨fun z => absurd rfl z, fun _ => ?_⟩
      refine am_run hX 4 _ _ _ _ ?_
      conv => whnf
      refine am_cq (ct_note5 (d := d + 1) (M := N) (k := 4) (p := sg) hN.2.2.2.2.1.2 (by omega) (by decide) hN.2.2.2.2.1.1) ?_
      rintro r1 N1 ⟨rfl, f1, e1⟩
      refine ⟨none, rfl, ?_⟩
      refine am_run hX 2 _ _ _ _ ?_
      conv => whnf
      refine ⟨fun z => absurd rfl z, fun _ => ?_⟩
      refine am_run hX 3 _ _ _ _ ?_
      conv => whnf
      refine P N1 (ruF_t (ruF_2 (by decide) F) (ruF_2 (by decide) f1)) ?_ (by rw [f1.2.1 16 rfl]; exact n16)
      obtain ⟨a1, ⟨a2, a2'⟩, ⟨a3, a3'⟩, ⟨a4, a4'⟩, ⟨a5, a5'⟩, a6, a6'⟩ := hN
      exact ⟨rdX_f ⟨rfl, rfl⟩ f1 a1, ⟨by rw [f1.2.1 8 rfl]; exact a2, a2'⟩, ⟨by rw [f1.2.1 9 rfl]; exact a3, a3'⟩, ⟨by rw [f1.2.1 11 rfl]; exact a4, a4'⟩, ⟨e1, ntF_l a5' hsg (by decide)⟩, by rw [f1.2.1 18 rfl]; exact a6, a6'⟩
    · have P := first N f (by rw [if_neg q])
      rw [if_neg q] at P
      refine ⟨fun _ => ?_, fun z => absurd (nI_ne0 (n := cxT c l) (by omega) (by omega)) z⟩
      refine am_run hX 2 _ _ _ _ ?_
      conv => whnf
      refine ⟨fun _ => ?_, fun z => absurd (nI_ne0 (n := cxT c l) (by omega) (by omega)) z⟩
      refine am_run hX 2 _ _ _ _ ?_
      conv => whnf
      exact P (ruF_2 (by decide) F) hN n16
  have put : ∀ (v : Int32), v = b01 (cxA c || decide (cxR c = 4)) → X 21 [some (aR 2), some (aI (nI l)), some (aI (nI sg)), some (aI (nI dc)), none, none, none, none] [aI v, aR 2] M := by
    intro v hv
    refine am_run hX 1 _ _ _ _ ?_
    conv => whnf
    refine ⟨by rw [hv]; cases (cxA c || decide (cxR c = 4)) <;> exact ⟨rfl, rfl⟩, ?_⟩
    refine body _ (r2F_u M _ rfl) ?_
    rw [r2_at]
    exact hv
  have iff := ahd (c := c) h16 h15 hr
  refine am_run hX 4 _ _ _ _ ?_
  conv => whnf
  by_cases q : M.1 2 16 = 0
  · refine ⟨fun z => absurd q z, fun _ => ?_⟩
    refine am_run hX 4 _ _ _ _ ?_
    conv => whnf
    by_cases q2 : M.1 2 15 = -1
    · have e := iff.mp (Or.inr q2)
      refine ⟨fun z => absurd q2 z, fun _ => ?_⟩
      refine am_run hX 2 _ _ _ _ ?_
      conv => whnf
      exact put 1 (by rw [e]; rfl)
    · have e : (cxA c || decide (cxR c = 4)) = false := by
        cases hq : (cxA c || decide (cxR c = 4)) with
        | false => rfl
        | true => exact absurd (iff.mpr hq) (fun z => z.elim (fun y => y q) q2)
      refine ⟨fun _ => ?_, fun z => absurd q2 z⟩
      refine am_run hX 1 _ _ _ _ ?_
      conv => whnf
      exact put 0 (by rw [e]; rfl)
  · have e := iff.mp (Or.inl q)
    refine ⟨fun _ => ?_, fun z => absurd q z⟩
    refine am_run hX 2 _ _ _ _ ?_
    conv => whnf
    exact put 1 (by rw [e]; rfl)
end CRO
