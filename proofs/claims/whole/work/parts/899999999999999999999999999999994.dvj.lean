/-! derive: both sides, over what SHORTEST does -/
/-- SHORTEST at the class -/
def shC (SC : mm_M → Prop) (sh : List bk_X → List bk_X) : Prop := ∀ (D : mm_M) (n c W : Nat) (l : List bk_X), SC D → bk_iv D n → c < n → bk_c D c W l.length → opsL D c W l → allO W l → okL l → drw D [] → am_M 999 false nm_X2_putShortest [aR 57, aR 9, aI (nI c)] D (drG SC D (W = 2 ∧ plA l) (sh l))
/-- SHORTEST at the reference -/
def shR (RS : mm_M → Prop) (sh : List bk_X → List bk_X) : Prop := ∀ (K : mm_M) (n c : Nat) (l : List bk_X), RS K → K.1 108 6 = nI n → n < 20 → c < n → opsL K c 2 l → allO 2 l → okL l → plA l → llw K n [] → am_M 999 false nm_X12_layShortest [aR 108, aI (nI c)] K (fun r N => r = .inl none ∧ dvrF n K N ∧ RS N ∧ lfn N n (sh l))
/-- where the class's tables lie, and the reference's -/
def scK (SC : mm_M → Prop) : Prop := ∀ M N, SC M → (∀ k, 57 ≤ k → k ≤ 65 → N.1 k = M.1 k ∧ N.2 k = M.2 k) → SC N
def rsK (RS : mm_M → Prop) : Prop := ∀ M N, RS M → (∀ k, 136 ≤ k → k ≤ 140 → N.1 k = M.1 k) → (∀ y, 45 ≤ y → y ≤ 49 → N.1 108 y = M.1 108 y) → (∀ k, 108 ≤ k → N.2 k = M.2 k) → RS N
theorem drG_w {Q : mm_M → Prop} {M : mm_M} {ok ok' : Prop} {L : List bk_X} {r : am_R} {N : mm_M} (e : ok ↔ ok') (h : drG Q M ok L r N) : drG Q M ok' L r N := ⟨h.1, h.2.1, h.2.2.elim (fun a => Or.inl ⟨e.mp a.1, a.2⟩) (fun a => Or.inr ⟨fun z => a.1 (e.mpr z), a.2⟩)⟩
theorem opsL_F {M N : mm_M} {c W : Nat} {l : List bk_X} (h : bkF M N) (hl : opsL M c W l) : opsL N c W l := ⟨by rw [h.1 11 (by omega)]; exact hl.1, by rw [h.1 111 (by omega)]; exact hl.2.1, hl.2.2.1, fun j hj => ⟨(hl.2.2.2 j hj).1, bkF_o h (hl.2.2.2 j hj).2⟩⟩
theorem bkX_F {M N : mm_M} {n : Nat} {F : Nat → Nat × List bk_X} (h : bkF M N) (hB : bkX M n F) : bkX N n F := ⟨hB.1, h.2.1.trans hB.2.1, h.2.2.trans hB.2.2.1, fun c hc => by
  obtain ⟨a1, a2, a3, a4, a5, a6⟩ := hB.2.2.2 c hc
  exact ⟨a1, a2, by rw [h.1 12 (by omega)]; exact a3, by rw [h.1 110 (by omega)]; exact a4, opsL_F h a5, a6⟩⟩
theorem bkF_v {M N : mm_M} (h : dvcF M N) : bkF M N := ⟨fun k hk => by
  by_cases q : k = 10 ∨ k = 11 ∨ k = 12
  · exact h.2.2.1 k q
  · exact h.1 k (by omega) (by omega), h.2.2.2.1, by rw [h.1 108 (by omega) (by omega)]⟩
section DVJ
variable {M : mm_M} {n c c' : Nat} {F : Nat → Nat × List bk_X} {how p q : Int32} {SC RS : mm_M → Prop} {sh : List bk_X → List bk_X}
theorem dvK_t (h2 : how ≠ 2) (h4 : how ≠ 4) (h6 : how ≠ 6) : True ↔ dvK F how c := ⟨fun _ => ⟨fun h => absurd h h2, fun h => absurd h h4, fun h => absurd h h6⟩, fun _ => trivial⟩
/-- what the class's derive comes to -/
def dcQ (SC : mm_M → Prop) (M : mm_M) (n : Nat) (K : Prop) (L : List bk_X) (V : Nat) : am_Q := fun r N => (K ∧ okL L ∧ n < 20 ∧ r = .inl (some (aI (nI n))) ∧ ∃ N1, dvcF M N1 ∧ SC N1 ∧ drw N1 L ∧ N = kpM N1 n L.length V) ∨ (¬ (K ∧ okL L ∧ n < 20) ∧ r = .inl (some (aI (-1))) ∧ dvcF M N ∧ SC N)
set_option maxRecDepth 100000 in
theorem ct_dvC1 (hB : bkX M n F) (hs : SC M) (kS : scK SC) (hC : shC SC sh) (hS : shL sh) (hv : vaC n F how p q c c') : am_M 1000 false nm_X11_derive [aR 0, aI how, aI p, aI q] M (dcQ SC M n (dvK F how c) (dvL sh F how c c') (dvW F how c)) := by
  have hvD := C_va hv
  have hog := og_dv hB hS hv
  obtain ⟨h0, h6, hc, rfl, h2, hp⟩ := hv
  have hBc := hB.2.2.2 c hc
  obtain ⟨w1, w8, f12, _, hl, ok, hg⟩ := hBc
  have hbk := bkX_c hB hc
  refine ⟨rfl, rfl, rfl, fun X hX => ?_⟩
  refine dv_chk (d := 995) hX hB (fun z => absurd hvD z) (fun _ v4 => ?_)
  have hQ : ∀ D N, dfF M D → mrF D N → SC N := fun D N a b => kS M N hs (fun k k1 k2 => by
    have m := mrF_t (mrF_d a) b
    exact ⟨m.1 k (by omega) (by omega) (by omega) (by omega), by rw [m.2.1]⟩)
  have hbi := bkX_i hB
  refine dv_tc (d := 992) (M := M) (n := n) (c := c) (W := (F c).1) (V := dvW F how c) (how := how) (q := q) (ok := dvK F how c) (L := dvL sh F how c c') (Q := SC) hX hB.1 hB.2.1 hc f12 w8 rfl (fun n6 D hD hd => ?_) (fun e6 D hD hd => ?_) (fun k => ?_) (fun k okl n20 N a b e => Or.inl ⟨k, okl, n20, rfl, N, a, b, e, rfl⟩) (fun k N a b => Or.inr ⟨k, rfl, a, b⟩)
  · have bD := bkF_d hD
    have hbi := bkF_i bD hbi
    have hbk := bkF_c bD hbk
    have hl := opsL_F bD hl
    rcases hw_7 h0 h6 with rfl | rfl | rfl | rfl | rfl | rfl | rfl
    · rw [dvL_0]
      exact am_wk (ct_dr0 (d := 992) hbi hc hbk hl hd) fun r N hq => drG_w (dvK_t (by decide) (by decide) (by decide)) (drQ_G (fun N => hQ D N hD) hq)
    · obtain ⟨hc', rfl, ew, _⟩ := h2 (Or.inl rfl)
      rw [dvL_1]
      exact am_wk (ct_dr1 (d := 992) hbi hc hbk hl hc' (bkF_c bD (bkX_c hB hc')) (opsL_F bD (hB.2.2.2 c' hc').2.2.2.2.1) hd) fun r N hq => drG_w (dvK_t (by decide) (by decide) (by decide)) (drQ_G (fun N => hQ D N hD) hq)
    · rw [dvL_2]
      exact am_wk (ct_dr2 (d := 992) hbi hc hbk hl hd) fun r N hq => drG_w ⟨fun h => ⟨fun _ => h, fun h => absurd h (by decide), fun h => absurd h (by decide)⟩, fun h => h.1 rfl⟩ (drQ_G (fun N => hQ D N hD) hq)
    · obtain ⟨hc', rfl, ew, _⟩ := h2 (Or.inr rfl)
      rw [dvL_3]
      exact am_wk (ct_dr3 (d := 992) hbi hc hbk hl hc' (bkF_c bD (bkX_c hB hc')) (opsL_F bD (hB.2.2.2 c' hc').2.2.2.2.1) hd) fun r N hq => drG_w (dvK_t (by decide) (by decide) (by decide)) (drQ_G (fun N => hQ D N hD) hq)
    · have hpu := hp (by decide)
      rw [dvL_4]
      exact am_wk (ct_dr4 (d := 992) hbi hc hbk hl (fun j hj => ⟨hg j hj, hpu j hj⟩) hd) fun r N hq => drG_w ⟨fun h => ⟨fun h => absurd h (by decide), fun _ => h, fun h => absurd h (by decide)⟩, fun h => h.2.1 rfl⟩ (drQ_G (fun N => hQ D N hD) hq)
    · have hpu := hp (by decide)
      rw [dvL_5]
      exact am_wk (ct_dr5 (d := 992) hbi hc hbk hl (fun j hj => ⟨hg j hj, hpu j hj⟩) hd) fun r N hq => drG_w (dvK_t (by decide) (by decide) (by decide)) (drQ_G (fun N => hQ D N hD) hq)
    · exact absurd rfl n6
  · subst e6
    have bD := bkF_d hD
    have hpu := hp (by decide)
    rw [dvL_6]
    exact am_wk (hC D n c (F c).1 (F c).2 (hQ D D hD (mrF_r D)) (bkF_i bD hbi) hc (bkF_c bD hbk) (opsL_F bD hl) (fun j hj => ⟨hg j hj, hpu j hj⟩) ok hd) fun r N hq => drG_w ⟨fun h => ⟨fun h => absurd h (by decide), fun h => absurd h (by decide), fun _ => h⟩, fun h => h.2.2 rfl⟩ hq
  · obtain ⟨⟨a1, a2⟩, a3, a4⟩ := hog k
    exact ⟨a2, fun j hj => (zg_all.mpr a4 j hj).1, by omega⟩
theorem ct_dvC0 (hB : bkX M n F) (hv : ¬ vaD n F how p q) : am_M 1000 false nm_X11_derive [aR 0, aI how, aI p, aI q] M (am_q1 (aI (-1)) M) := by
  refine ⟨rfl, rfl, rfl, fun X hX => ?_⟩
  exact dv_chk (d := 995) hX hB (fun _ => ⟨rfl, rfl⟩) (fun z => absurd z hv)
/-- what the reference's derive comes to -/
def drQQ (RS : mm_M → Prop) (M : mm_M) (n : Nat) (L : List bk_X) (V : Nat) : am_Q := fun r N => (okL L ∧ r = .inl (some (aI (nI n))) ∧ ∃ N1, dvrF n M N1 ∧ RS N1 ∧ lfn N1 n L ∧ N = stM N1 n V) ∨ (¬ okL L ∧ r = .inl (some (aI (-1))) ∧ dvrF n M N ∧ RS N)
set_option maxRecDepth 100000 in
theorem ct_dvR1 (hB : bkR M n F) (hs : RS M) (kS : rsK RS) (hR : shR RS sh) (hv : vaC n F how p q c c') (hK : dvK F how c) (hn : n < 20) : am_M 1000 false nm_X12_derive [aR 108, aI how, aI p, aI q] M (drQQ RS (th0 M) n (dvL sh F how c c') (dvW F how c)) := by
  have hvD := C_va hv
  obtain ⟨h0, h6, hc, rfl, h2, hp⟩ := hv
  have hrD : rvD n F how (nI c) q := ⟨hvD, by omega, fun c2 hc2 e => by
    have : c2 = c := ((nI_eq (by omega) (by omega)).mp e).symm
    subst this
    exact hK⟩
  have hB' : bkR (th0 M) n F := hB
  obtain ⟨w1, w8, f110, hl, ok, hg⟩ := hB'.2.2 c hc
  have t6 := hB'.2.1
  have hs' : RS (th0 M) := kS M _ hs (fun k k1 k2 => by
    unfold th0
    rw [mm_ne _ _ _ _ (by omega)]) (fun y y1 y2 => by
    unfold th0
    rw [mm_i1, up_ne (by omega)]) (fun _ _ => rfl)
  refine ⟨rfl, rfl, rfl, fun X hX => ?_⟩
  refine dv_chr (d := 995) hX hB (fun z => absurd hrD z) (fun _ v4 => ?_)
  have hq : ∀ N, mqF n (th0 M) N → dvrF n (th0 M) N ∧ RS N := fun N a => ⟨dvrF_m a, kS _ N hs' (fun k k1 k2 => a.1 k (by omega) (by omega) (by omega)) (fun y y1 y2 => a.2.2.1 y (by omega) (by omega) (by omega)) (fun _ _ => by rw [a.2.1])⟩
  have hFq : ∀ N, (dvrF n (th0 M) N ∧ RS N) → dvrF n (th0 M) N := fun N a => a.1
  rcases hw_7 h0 h6 with rfl | rfl | rfl | rfl | rfl | rfl | rfl
  · have e : dvW F 0 c = (F c).1 := by unfold dvW; rw [if_neg (by decide), Nat.add_zero]
    rw [e, dvL_0] at hX
    exact dv_r0 (d := 992) (Fq := fun N => dvrF n (th0 M) N ∧ RS N) hX hn hc t6 f110 hl hq hFq (fun k N a b => Or.inl ⟨k, rfl, N, a.1, a.2, b, rfl⟩) (fun k N a => Or.inr ⟨k, rfl, a.1, a.2⟩)
  · have e : dvW F 1 c = (F c).1 := by unfold dvW; rw [if_neg (by decide), Nat.add_zero]
    obtain ⟨hc', rfl, ew, _⟩ := h2 (Or.inl rfl)
    rw [e, dvL_1] at hX
    exact dv_r1 (d := 992) (Fq := fun N => dvrF n (th0 M) N ∧ RS N) hX hn hc hc' t6 f110 hl (hB'.2.2 c' hc').2.2.2.1 hq hFq (fun k N a b => Or.inl ⟨k, rfl, N, a.1, a.2, b, rfl⟩) (fun k N a => Or.inr ⟨k, rfl, a.1, a.2⟩)
  · have e : dvW F 2 c = (F c).1 + 1 := by unfold dvW; rw [if_pos rfl]
    rw [e, dvL_2] at hX
    exact dv_r2 (d := 992) (Fq := fun N => dvrF n (th0 M) N ∧ RS N) hX hn hc t6 f110 (hK.1 rfl) hl hq hFq (fun k N a b => Or.inl ⟨k, rfl, N, a.1, a.2, b, rfl⟩) (fun k N a => Or.inr ⟨k, rfl, a.1, a.2⟩)
  · have e : dvW F 3 c = (F c).1 := by unfold dvW; rw [if_neg (by decide), Nat.add_zero]
    obtain ⟨hc', rfl, ew, _⟩ := h2 (Or.inr rfl)
    rw [e, dvL_3] at hX
    exact dv_r3 (d := 992) (Fq := fun N => dvrF n (th0 M) N ∧ RS N) hX hn hc hc' t6 f110 hl (hB'.2.2 c' hc').2.2.2.1 hq hFq (fun k N a b => Or.inl ⟨k, rfl, N, a.1, a.2, b, rfl⟩) (fun k N a => Or.inr ⟨k, rfl, a.1, a.2⟩)
  · have e : dvW F 4 c = (F c).1 := by unfold dvW; rw [if_neg (by decide), Nat.add_zero]
    have hpu := hp (by decide)
    rw [e, dvL_4] at hX
    exact dv_r4 (d := 992) (Fq := fun N => dvrF n (th0 M) N ∧ RS N) hX hn hc t6 f110 w8 hl (fun j hj => ⟨hg j hj, hpu j hj⟩) hq hFq (fun k N a b => Or.inl ⟨k, rfl, N, a.1, a.2, b, rfl⟩) (fun k N a => Or.inr ⟨k, rfl, a.1, a.2⟩)
  · have e : dvW F 5 c = (F c).1 := by unfold dvW; rw [if_neg (by decide), Nat.add_zero]
    have hpu := hp (by decide)
    rw [e, dvL_5] at hX
    exact dv_r5 (d := 992) (Fq := fun N => dvrF n (th0 M) N ∧ RS N) hX hn hc t6 f110 w8 hl ok (fun j hj => ⟨hg j hj, hpu j hj⟩) hq hFq (fun k N a b => Or.inl ⟨k, rfl, N, a.1, a.2, b, rfl⟩) (fun k N a => Or.inr ⟨k, rfl, a.1, a.2⟩)
  · have e : dvW F 6 c = (F c).1 := by unfold dvW; rw [if_neg (by decide), Nat.add_zero]
    have hpu := hp (by decide)
    obtain ⟨e2, hpl⟩ := hK.2.2 rfl
    have m0 := mqF_l (n := n) (M := th0 M) []
    have hS := hR (llM (th0 M) n []) n c (F c).2 (hq _ m0).2 (by rw [m0.2.2.1 6 (by decide) (by decide) (by decide)]; exact t6) hn hc (by rw [← e2]; exact ll_ops hc hl) (fun j hj => ⟨by rw [← e2]; exact hg j hj, hpu j hj⟩) ok hpl (llw_l _ n [])
    rw [e, dvL_6] at hX
    exact dv_r6 (d := 992) (L := sh (F c).2) (Fq := fun N => dvrF n (th0 M) N ∧ RS N) hX hn hc t6 f110 (am_wk hS fun r N a => ⟨a.1, ⟨dvrF_t (dvrF_m m0) a.2.1, a.2.2.1⟩, a.2.2.2⟩) hFq (fun k N a b => Or.inl ⟨k, rfl, N, a.1, a.2, b, rfl⟩) (fun k N a => Or.inr ⟨k, rfl, a.1, a.2⟩)
theorem ct_dvR0 (hB : bkR M n F) (hv : ¬ rvD n F how p q) : am_M 1000 false nm_X12_derive [aR 108, aI how, aI p, aI q] M (am_q1 (aI (-1)) (th0 M)) := by
  refine ⟨rfl, rfl, rfl, fun X hX => ?_⟩
  exact dv_chr (d := 995) hX hB (fun _ => ⟨rfl, rfl⟩) (fun z => absurd z hv)
end DVJ
