/-! THE PAIR derive, over what SHORTEST does -/
theorem bkX_rf {M N : mm_M} {n : Nat} {F : Nat → Nat × List bk_X} (h : dvrF n (th0 M) N) (hB : bkX M n F) : bkX N n F := by
  have e : ∀ k, k < 108 → N.1 k = M.1 k := fun k hk => (h.1 k (by omega) (by omega) (by omega)).trans (mm_ne _ _ _ _ (by omega))
  have e1 : ∀ k, k = 110 ∨ k = 111 → N.1 k = M.1 k := fun k hk => (h.1 k (by omega) (by omega) (by omega)).trans (mm_ne _ _ _ _ (by omega))
  have e2 : ∀ k a, 112 ≤ k → k ≤ 117 → a < 300 * n → N.1 k a = M.1 k a := fun k a k1 k2 ha => (h.2.2.2 k a k1 k2 ha).trans (by unfold th0; rw [mm_ne _ _ _ _ (by omega)])
  obtain ⟨b1, b2, b3, b4⟩ := hB
  refine ⟨b1, by rw [e 9 (by decide)]; exact b2, by rw [h.2.2.1 6 (by decide) (by decide) (by decide) (by omega)]; exact b3, fun c hc => ?_⟩
  obtain ⟨a1, a2, a3, a4, ⟨l1, l2, l3, l4⟩, a6⟩ := b4 c hc
  refine ⟨a1, a2, by rw [e 12 (by decide)]; exact a3, by rw [e1 110 (by omega)]; exact a4, ⟨by rw [e 11 (by decide)]; exact l1, by rw [e1 111 (by omega)]; exact l2, l3, fun j hj => ⟨(l4 j hj).1, ?_⟩⟩, a6⟩
  have h := (l4 j hj).2
  unfold bk_o at h ⊢
  rw [e 10 (by decide), e2 112 _ (by decide) (by decide) (by omega), e2 113 _ (by decide) (by decide) (by omega), e2 114 _ (by decide) (by decide) (by omega), e2 115 _ (by decide) (by decide) (by omega), e2 116 _ (by decide) (by decide) (by omega), e2 117 _ (by decide) (by decide) (by omega)]
  exact h
/-- the bank with one more -/
def nwF (F : Nat → Nat × List bk_X) (n V : Nat) (L : List bk_X) : Nat → Nat × List bk_X := fun c => if c = n then (V, L) else F c
theorem nw_n {F : Nat → Nat × List bk_X} {n V : Nat} {L : List bk_X} : nwF F n V L n = (V, L) := if_pos rfl
theorem nw_o {F : Nat → Nat × List bk_X} {n V c : Nat} {L : List bk_X} (h : c ≠ n) : nwF F n V L c = F c := if_neg h
theorem kp_9 (D : mm_M) (n k V : Nat) : (kpM D n k V).1 9 7 = nI (n + 1) := by
  unfold kpM
  rw [mm_i1]
  exact up_at
section DVK
variable {N1 N2 : mm_M} {n V : Nat} {F : Nat → Nat × List bk_X} {L : List bk_X}
theorem bkR_kp (hB : bkX N1 n F) (k : Nat) : bkR (kpM N1 n k V) n F := ⟨hB.1, by rw [kp_r _ _ _ _ (by decide)]; exact hB.2.2.1, fun c hc => by
  obtain ⟨a1, a2, a3, a4, a5, a6⟩ := hB.2.2.2 c hc
  exact ⟨a1, a2, by rw [kp_r _ _ _ _ (by decide)]; exact a4, kp_ops hc a5, a6⟩⟩
theorem bkX_n (hB : bkX N1 n F) (hn : n < 20) (ok : okL L) (hd : drw N1 L) (h : dvrF n (th0 (kpM N1 n L.length V)) N2) (hL : lfn N2 n L) (v1 : 1 ≤ V) (v8 : V ≤ 8) (ho : ∀ x ∈ L, ogd V x) : bkX (stM N2 n V) (n + 1) (nwF F n V L) := by
  have ho := zg_all.mpr ho
  have eK : ∀ k, k < 108 → N2.1 k = (kpM N1 n L.length V).1 k := fun k hk => (h.1 k (by omega) (by omega) (by omega)).trans (mm_ne _ _ _ _ (by omega))
  have eS : ∀ k, k ≠ 108 → k ≠ 110 → k ≠ 111 → (stM N2 n V).1 k = N2.1 k := fun k a b c => by
    unfold stM
    rw [mm_ne _ _ _ _ a, mm_ne _ _ _ _ c, mm_ne _ _ _ _ b]
  have e : ∀ k, k < 108 → (stM N2 n V).1 k = (kpM N1 n L.length V).1 k := fun k hk => (eS k (by omega) (by omega) (by omega)).trans (eK k hk)
  have o1 : ∀ k, k = 110 ∨ k = 111 → N2.1 k = N1.1 k := fun k hk => (h.1 k (by omega) (by omega) (by omega)).trans ((mm_ne _ _ _ _ (by omega)).trans (kp_r _ _ _ _ (by omega)))
  have s110 : (stM N2 n V).1 110 = upd (N1.1 110) n (nI V) := by
    unfold stM
    rw [mm_ne _ _ _ _ (by decide), mm_ne _ _ _ _ (by decide), mm_i1, o1 110 (by omega)]
  obtain ⟨g1, g2, g3⟩ := hL.1 ok
  have s111 : (stM N2 n V).1 111 = upd (N1.1 111) n (nI L.length) := by
    unfold stM
    rw [mm_ne _ _ _ _ (by decide), mm_i1, o1 111 (by omega), g2]
  have e2 : ∀ k a, 112 ≤ k → k ≤ 117 → a < 300 * n → (stM N2 n V).1 k a = N1.1 k a := fun k a k1 k2 ha => by
    rw [eS k (by omega) (by omega) (by omega), h.2.2.2 k a k1 k2 ha]
    unfold th0
    rw [mm_ne _ _ _ _ (by omega), kp_r _ _ _ _ (by omega)]
  obtain ⟨b1, b2, b3, b4⟩ := hB
  refine ⟨by omega, by rw [e 9 (by decide)]; exact kp_9 _ _ _ _, ?_, fun c hc => ?_⟩
  · unfold stM
    rw [mm_i1]
    exact up_at
  by_cases q : c = n
  · subst q
    rw [nw_n]
    refine ⟨v1, v8, by rw [e 12 (by decide), kp_12]; exact up_at, by rw [s110]; exact up_at, ⟨by rw [e 11 (by decide), kp_11u]; exact up_at, by rw [s111]; exact up_at, ok.1, fun j hj => ⟨(ho j hj).1, ?_⟩⟩, ok, ho⟩
    obtain ⟨r1, r2, r3, r4, r5, r6⟩ := g3 j hj
    unfold bk_o
    rw [e 10 (by decide), eS 112 (by decide) (by decide) (by decide), eS 113 (by decide) (by decide) (by decide), eS 114 (by decide) (by decide) (by decide), eS 115 (by decide) (by decide) (by decide), eS 116 (by decide) (by decide) (by decide), eS 117 (by decide) (by decide) (by decide)]
    refine ⟨?_, r1, r2, r3, r4, r5, r6⟩
    have hj : j < L.length := hj
    have ok1 := ok.1
    rw [kp_10u]
    unfold va_cpy
    rw [if_pos ⟨by omega, by omega⟩, show 0 + (300 * c + j - 300 * c) = j by omega]
    exact hd.2 j (by omega)
  · have hc : c < n := by omega
    rw [nw_o q]
    obtain ⟨a1, a2, a3, a4, a5, a6⟩ := b4 c hc
    obtain ⟨l1, l2, l3, l4⟩ := a5
    refine ⟨a1, a2, by rw [e 12 (by decide), kp_12, up_ne q]; exact a3, by rw [s110, up_ne q]; exact a4, ⟨by rw [e 11 (by decide), kp_11u, up_ne q]; exact l1, by rw [s111, up_ne q]; exact l2, l3, fun j hj => ⟨(l4 j hj).1, ?_⟩⟩, a6⟩
    have h := (l4 j hj).2
    unfold bk_o at h ⊢
    rw [e 10 (by decide), kp_10 _ _ _ (by omega), e2 112 _ (by decide) (by decide) (by omega), e2 113 _ (by decide) (by decide) (by omega), e2 114 _ (by decide) (by decide) (by omega), e2 115 _ (by decide) (by decide) (by omega), e2 116 _ (by decide) (by decide) (by omega), e2 117 _ (by decide) (by decide) (by omega)]
    exact h
end DVK
/-- what derive may change -/
def dvF (M N : mm_M) : Prop := (∀ k, (k < 9 ∨ 16 < k) → (k < 57 ∨ 65 < k) → k ≠ 108 → (k < 110 ∨ 117 < k) → (k < 133 ∨ 140 < k) → N.1 k = M.1 k) ∧ (∀ k, (k < 57 ∨ 65 < k) → N.2 k = M.2 k) ∧ (∀ y, y ≠ 0 → y ≠ 6 → y ≠ 36 → y ≠ 37 → y ≠ 38 → (y < 45 ∨ 49 < y) → N.1 108 y = M.1 108 y) ∧ ∀ y, y ≠ 9 → N.1 57 y = M.1 57 y
theorem dvF_2 {M N1 N2 : mm_M} {n : Nat} (h : dvcF M N1) (g : dvrF n (th0 N1) N2) : dvF M N2 := ⟨fun k a b c e f => (g.1 k c (by omega) f).trans ((mm_ne _ _ _ _ c).trans (h.1 k a b)), fun k a => by
  rw [g.2.1]
  exact h.2.1 k a, fun y a b c e f i => by
  rw [g.2.2.1 y c e f i]
  unfold th0
  rw [mm_i1, up_ne a, h.1 108 (by omega) (by omega)], fun y hy => by
  rw [g.1 57 (by decide) (by omega) (by omega)]
  unfold th0
  rw [mm_ne _ _ _ _ (by decide)]
  exact h.2.2.2.2 y hy⟩
theorem dvF_0 {M N : mm_M} (h : dvcF M N) : dvF M (th0 N) := ⟨fun k a b c _ _ => (mm_ne _ _ _ _ c).trans (h.1 k a b), h.2.1, fun y a _ _ _ _ _ => by
  unfold th0
  rw [mm_i1, up_ne a, h.1 108 (by omega) (by omega)], fun y hy => by
  unfold th0
  rw [mm_ne _ _ _ _ (by decide)]
  exact h.2.2.2.2 y hy⟩
theorem dvF_s {M N1 N2 : mm_M} {n k V : Nat} (h : dvcF M N1) (g : dvrF n (th0 (kpM N1 n k V)) N2) : dvF M (stM N2 n V) := by
  have eS : ∀ k, k ≠ 108 → k ≠ 110 → k ≠ 111 → (stM N2 n V).1 k = N2.1 k := fun k a b c => by
    unfold stM
    rw [mm_ne _ _ _ _ a, mm_ne _ _ _ _ c, mm_ne _ _ _ _ b]
  refine ⟨fun j a b c e f => ?_, fun j a => ?_, fun y a b c e f i => ?_, fun y hy => ?_⟩
  · rw [eS j c (by omega) (by omega), g.1 j c (by omega) f]
    unfold th0
    rw [mm_ne _ _ _ _ c, kp_r _ _ _ _ (by omega)]
    exact h.1 j a b
  · show N2.2 j = _
    rw [g.2.1]
    show N1.2 j = _
    exact h.2.1 j a
  · unfold stM
    rw [mm_i1, up_ne b, g.2.2.1 y c e f i]
    unfold th0
    rw [mm_i1, up_ne a, kp_r _ _ _ _ (by decide), h.1 108 (by omega) (by omega)]
  · rw [eS 57 (by decide) (by decide) (by decide), g.1 57 (by decide) (by omega) (by omega)]
    unfold th0
    rw [mm_ne _ _ _ _ (by decide), kp_r _ _ _ _ (by decide)]
    exact h.2.2.2.2 y hy
section DVL
variable {ac : Nat → ClassId} {lo : Nat} {ad as : Nat → Nat} {b L : Nat} {zs : Nat → Int32} {hp : mm_M → Nat → xm_H} {I J : mm_M → Prop} {SC RS : mm_M → Prop} {sh : List bk_X → List bk_X}
/-- the invariant: the bank, and SHORTEST's tables -/
def dv_iv (SC RS : mm_M → Prop) (M : mm_M) : Prop := SC M ∧ RS M ∧ ∃ n F, bkX M n F
theorem pr_dvO (H : mm_L ac lo hp) (kS : scK SC) (kR : rsK RS) (hC : shC SC sh) (hR : shR RS sh) (hS : shL sh) (h1 : ∀ M, I M → dv_iv SC RS M) (hJ : ∀ M N, I M → dvF M N → dv_iv SC RS N → J N) (how p q : Int32) : la_I ac lo ad as b L zs hp I J nm_X11_derive nm_X12_derive [.int how, .int p, .int q] := by
  refine am_la_I (us := [aI how, aI p, aI q]) H fun M hI => ?_
  obtain ⟨sc, rs, n, F, hB⟩ := h1 M hI
  have dr : dvcF M M := ⟨fun _ _ _ => rfl, fun _ _ => rfl, fun _ _ => rfl, rfl, fun _ _ => rfl⟩
  -- the reference says no, and nothing changed but its FAULT
  have hsc0 : ∀ N, SC N → SC (th0 N) := fun N h => kS N _ h (fun k a b => ⟨by unfold th0; rw [mm_ne _ _ _ _ (by omega)], rfl⟩)
  have hrs0 : ∀ N, RS N → RS (th0 N) := fun N h => kR N _ h (fun k a b => by
    unfold th0
    rw [mm_ne _ _ _ _ (by omega)]) (fun y a b => by
    unfold th0
    rw [mm_i1, up_ne (by omega)]) (fun _ _ => rfl)
  have hrsC : ∀ N, dvcF M N → RS N := fun N h => kR M N rs (fun k a b => h.1 k (by omega) (by omega)) (fun y a b => by rw [h.1 108 (by omega) (by omega)]) (fun k a => h.2.1 k (by omega))
  have hno : ∀ N, dvcF M N → SC N → J (th0 N) := by
    intro N h s
    have hb : bkX N n F := bkX_F (bkF_v h) hB
    exact hJ M _ hI (dvF_0 h) ⟨hsc0 N s, hrs0 N (hrsC N h), n, F, hb⟩
  by_cases hv : vaD n F how p q
  · obtain ⟨c, c', hv⟩ := va_C hv
    have hog := og_dv hB hS hv
    have hvD := C_va hv
    refine am_wk (ct_dvC1 hB sc kS hC hS hv) fun r M1 hq => ?_
    rcases hq with ⟨hK, ok, hn, rfl, N1, f1, s1, d1, rfl⟩ | ⟨hK, rfl, f1, s1⟩
    · refine ⟨nI n, rfl, ?_⟩
      have hB1 := bkX_F (bkF_v f1) hB
      have rsK : RS (kpM N1 n (dvL sh F how c c').length (dvW F how c)) := kR N1 _ (hrsC N1 f1) (fun k a b => kp_r _ _ _ _ (by omega)) (fun y _ _ => by rw [kp_r _ _ _ _ (by decide)]) (fun _ _ => rfl)
      refine am_wk (ct_dvR1 (sh := sh) (bkR_kp hB1 _) rsK kR hR hv hK hn) fun r2 M2 hq2 => ?_
      rcases hq2 with ⟨_, rfl, N2, f2, s2, l2, rfl⟩ | ⟨nok, _⟩
      · obtain ⟨⟨v1, v8⟩, _, ho⟩ := hog hK
        refine ⟨rfl, hJ M _ hI (dvF_s f1 f2) ⟨?_, ?_, n + 1, _, bkX_n hB1 hn ok d1 f2 l2 v1 v8 ho⟩⟩
        · refine kS N1 _ s1 (fun k a b => ⟨?_, ?_⟩)
          · unfold stM
            rw [mm_ne _ _ _ _ (by omega), mm_ne _ _ _ _ (by omega), mm_ne _ _ _ _ (by omega), f2.1 k (by omega) (by omega) (by omega)]
            unfold th0
            rw [mm_ne _ _ _ _ (by omega), kp_r _ _ _ _ (by omega)]
          · show N2.2 k = _
            rw [f2.2.1]
            rfl
        · refine kR N2 _ s2 (fun k a b => ?_) (fun y a b => ?_) (fun _ _ => rfl)
          · unfold stM
            rw [mm_ne _ _ _ _ (by omega), mm_ne _ _ _ _ (by omega), mm_ne _ _ _ _ (by omega)]
          · unfold stM
            rw [mm_i1, up_ne (by omega)]
      · exact absurd ok nok
    · refine ⟨-1, rfl, ?_⟩
      have hB1 := bkX_F (bkF_v f1) hB
      by_cases hr : rvD n F how p q
      · have hK1 : dvK F how c := hr.2.2 c hv.2.2.1 hv.2.2.2.1
        have hn : n < 20 := by
          have := hB.1
          have := hr.2.1
          omega
        refine am_wk (ct_dvR1 (sh := sh) (bkX_r hB1) (hrsC _ f1) kR hR hv hK1 hn) fun r2 M2 hq2 => ?_
        rcases hq2 with ⟨ok, _⟩ | ⟨_, rfl, f2, s2⟩
        · exact absurd ⟨hK1, ok, hn⟩ hK
        · refine ⟨rfl, hJ M _ hI (dvF_2 f1 f2) ⟨?_, s2, n, F, bkX_rf f2 hB1⟩⟩
          refine kS M1 _ s1 (fun k a b => ⟨?_, by rw [f2.2.1]; rfl⟩)
          rw [f2.1 k (by omega) (by omega) (by omega)]
          unfold th0
          rw [mm_ne _ _ _ _ (by omega)]
      · refine am_wk (ct_dvR0 (bkX_r hB1) hr) fun r2 M2 hq2 => ?_
        rw [hq2.2]
        exact ⟨hq2.1, hno M1 f1 s1⟩
  · refine am_wk (ct_dvC0 hB hv) fun r M1 hq => ⟨-1, hq.1, ?_⟩
    rw [hq.2]
    refine am_wk (ct_dvR0 (bkX_r hB) (fun z => hv z.1)) fun r2 M2 hq2 => ?_
    rw [hq2.2]
    exact ⟨hq2.1, hno M dr sc⟩
end DVL
