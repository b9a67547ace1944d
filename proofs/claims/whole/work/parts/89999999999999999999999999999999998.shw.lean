/-! SHORTEST: the class spreads from a distance -/
theorem szs_1 : ∀ g, g < 19 → ∀ r, r < 32 → szR g r % 16 = szR g (r % 16) % 16 ∧ szR g r / 16 = (r / 16) ^^^ (szR g (r % 16) / 16) := by decide +kernel
theorem sx_1 : ∀ a, a < 2 → ∀ a', a' < 2 → ∀ n, n < 8 → ∀ n', n' < 8 → (a + 2 * n) ^^^ (a' + 2 * n') = (a ^^^ a') + 2 * (n ^^^ n') := by decide +kernel
theorem sx_4 {a b c e a' b' c' e' : Nat} (ha : a < 2) (hb : b < 2) (hc : c < 2) (he : e < 2) (ha' : a' < 2) (hb' : b' < 2) (hc' : c' < 2) (he' : e' < 2) : (a ^^^ a') + 2 * (b ^^^ b') + 4 * (c ^^^ c') + 8 * (e ^^^ e') = (a + 2 * b + 4 * c + 8 * e) ^^^ (a' + 2 * b' + 4 * c' + 8 * e') := by
  rw [show a + 2 * b + 4 * c + 8 * e = a + 2 * (b + 2 * (c + 2 * e)) by omega, show a' + 2 * b' + 4 * c' + 8 * e' = a' + 2 * (b' + 2 * (c' + 2 * e')) by omega, sx_1 a ha a' ha' _ (by omega) _ (by omega), sx_1 b hb b' hb' _ (by omega) _ (by omega), sx_1 c hc c' hc' _ (by omega) _ (by omega)]
  omega
theorem un_P {g : Nat} {k : K4} (hg : g < 19) (hk : k4 k) : un4 (szP g k) = un4 (szP g (un4 k)) := by
  show (szR g k.1 % 16, szR g k.2.1 % 16, szR g k.2.2.1 % 16, szR g k.2.2.2 % 16) = (szR g (k.1 % 16) % 16, szR g (k.2.1 % 16) % 16, szR g (k.2.2.1 % 16) % 16, szR g (k.2.2.2 % 16) % 16)
  rw [(szs_1 g hg _ hk.1).1, (szs_1 g hg _ hk.2.1).1, (szs_1 g hg _ hk.2.2.1).1, (szs_1 g hg _ hk.2.2.2).1]
theorem sg_P {g : Nat} {k : K4} (hg : g < 19) (hk : k4 k) : sgN (szP g k) = sgN k ^^^ sgN (szP g (un4 k)) := by
  show szR g k.1 / 16 + 2 * (szR g k.2.1 / 16) + 4 * (szR g k.2.2.1 / 16) + 8 * (szR g k.2.2.2 / 16) = (k.1 / 16 + 2 * (k.2.1 / 16) + 4 * (k.2.2.1 / 16) + 8 * (k.2.2.2 / 16)) ^^^ (szR g (k.1 % 16) / 16 + 2 * (szR g (k.2.1 % 16) / 16) + 4 * (szR g (k.2.2.1 % 16) / 16) + 8 * (szR g (k.2.2.2 % 16) / 16))
  rw [(szs_1 g hg _ hk.1).2, (szs_1 g hg _ hk.2.1).2, (szs_1 g hg _ hk.2.2.1).2, (szs_1 g hg _ hk.2.2.2).2]
  exact sx_4 (dg_d hk.1) (dg_d hk.2.1) (dg_d hk.2.2.1) (dg_d hk.2.2.2) (dg_d (sz_lt _ _)) (dg_d (sz_lt _ _)) (dg_d (sz_lt _ _)) (dg_d (sz_lt _ _))
theorem rk_un (k : K4) : rkK (un4 k) = rkK k := by
  unfold rkK un4
  dsimp only
  rw [Nat.mod_mod, Nat.mod_mod, Nat.mod_mod, Nat.mod_mod]
theorem rk_eu {k k' : K4} (e : un4 k = un4 k') : rkK k = rkK k' := by
  rw [← rk_un k, ← rk_un k', e]
theorem sym_un {k : K4} (h : symK k) : symK (un4 k) := by
  obtain ⟨⟨a, b, c, e⟩, h1, h2, h3, h4, h5, h6⟩ := h
  have m32 : ∀ n, n % 16 < 32 := fun n => by omega
  refine ⟨⟨m32 _, m32 _, m32 _, m32 _⟩, ?_, ?_, ?_, ?_, ?_, ?_⟩
  · exact (cmm_m _ a _ b).trans h1
  · exact (cmm_m _ a _ c).trans h2
  · exact (cmm_m _ b _ c).trans h3
  · exact (cmm_m _ a _ e).trans h4
  · exact (cmm_m _ b _ e).trans h5
  · exact (cmm_m _ c _ e).trans h6
/-- rank and signs tell a key -/
theorem rs_i {k k' : K4} (h : symK k) (h' : symK k') (e : rkK k = rkK k') (s : sgN k = sgN k') : k = k' := by
  refine rkZ_i h h' ?_
  show 16 * rkK k + sgN k = 16 * rkK k' + sgN k'
  rw [e, s]
theorem ru_i {k k' : K4} (h : symK k) (h' : symK k') (e : rkK k = rkK k') : un4 k = un4 k' := by
  have s0 : ∀ k : K4, sgN (un4 k) = 0 := fun k => by
    show k.1 % 16 / 16 + 2 * (k.2.1 % 16 / 16) + 4 * (k.2.2.1 % 16 / 16) + 8 * (k.2.2.2 % 16 / 16) = 0
    rw [Nat.div_eq_of_lt (m16 _), Nat.div_eq_of_lt (m16 _), Nat.div_eq_of_lt (m16 _), Nat.div_eq_of_lt (m16 _)]
  exact rs_i (sym_un h) (sym_un h') (by rw [rk_un, rk_un]; exact e) (by rw [s0, s0])
/-- the step back -/
def bkG (i : Nat) : Nat := szI (szS i)
theorem bkG_t : ∀ i, i < 5 → sgT ((xp_a3.getD i 0).toNatClampNeg) = bkG i ∧ (xp_a3.getD i 0).toNatClampNeg < 7 ∧ xp_a3.getD i 0 = nI (xp_a3.getD i 0).toNatClampNeg := by decide +kernel
theorem bkG_19 : ∀ i, i < 5 → bkG i < 19 := by decide
theorem bk_st {i : Nat} {k : K4} (hi : i < 5) (hk : k4 k) : stZ i (szP (bkG i) k) = k ∧ szP (bkG i) (stZ i k) = k := by
  have h := szS_19 i hi
  obtain ⟨k0, k1, k2, k3⟩ := hk
  obtain ⟨a, b, c, e⟩ := k
  constructor
  · show (szR (szS i) (szR (szI (szS i)) a), szR (szS i) (szR (szI (szS i)) b), szR (szS i) (szR (szI (szS i)) c), szR (szS i) (szR (szI (szS i)) e)) = _
    rw [(sz_i _ h a k0).2, (sz_i _ h b k1).2, (sz_i _ h c k2).2, (sz_i _ h e k3).2]
  · show (szR (szI (szS i)) (szR (szS i) a), szR (szI (szS i)) (szR (szS i) b), szR (szI (szS i)) (szR (szS i) c), szR (szI (szS i)) (szR (szS i) e)) = _
    rw [(sz_i _ h a k0).1, (sz_i _ h b k1).1, (sz_i _ h c k2).1, (sz_i _ h e k3).1]
/-- distances are one thing -/
theorem dl_u {k : K4} {a b : Nat} (h : dlS stZ k4e k a) (g : dlS stZ k4e k b) : a = b := by
  obtain ⟨⟨w, w1, w2, w3⟩, wm⟩ := h
  obtain ⟨⟨v, v1, v2, v3⟩, vm⟩ := g
  have := wm v v1 v3
  have := vm w w1 w3
  omega
theorem dlx_e {k : K4} (h : symK k) : ∃ d, d ≤ 14 ∧ dlS stZ k4e k d := by
  obtain ⟨v, v1, v2, v3⟩ := dm_14 h
  have key : ∀ n, (∃ w, al5 w ∧ w.length = n ∧ awS stZ w k = k4e) → ∃ d, d ≤ n ∧ dlS stZ k4e k d := by
    intro n
    induction n using Nat.strongRecOn with
    | _ n ih =>
      intro hw
      by_cases c : ∃ m, m < n ∧ ∃ w, al5 w ∧ w.length = m ∧ awS stZ w k = k4e
      · obtain ⟨m, hm, hw'⟩ := c
        obtain ⟨d, a, b⟩ := ih m hm hw'
        exact ⟨d, by omega, b⟩
      · exact ⟨n, Nat.le_refl _, hw, fun w w1 w2 => Classical.byContradiction fun q => c ⟨w.length, by omega, w, w1, rfl, w2⟩⟩
  obtain ⟨d, a, b⟩ := key v.length ⟨v, v1, rfl, v3⟩
  exact ⟨d, by omega, b⟩
/-- one step changes distances by one at most -/
theorem dl_s {k : K4} {i a b : Nat} (hi : i < 5) (h : dlS stZ k4e k a) (g : dlS stZ k4e (stZ i k) b) : a ≤ b + 1 := by
  obtain ⟨⟨v, v1, v2, v3⟩, _⟩ := g
  have := h.2 (i :: v) (fun x hx => by
    rcases List.mem_cons.mp hx with z | z
    · rw [z]
      exact hi
    · exact v1 x z) v3
  have e : (i :: v).length = v.length + 1 := rfl
  omega
/-- the first step of a shortest word -/
theorem dl_f {k : K4} {a : Nat} (h : dlS stZ k4e k (a + 1)) : ∃ i, i < 5 ∧ dlS stZ k4e (stZ i k) a := by
  obtain ⟨⟨w, w1, w2, w3⟩, wm⟩ := h
  cases w with
  | nil => exact absurd w2 (by show ¬ 0 = a + 1; omega)
  | cons i w =>
    have e : (i :: w).length = w.length + 1 := rfl
    have hi := w1 i List.mem_cons_self
    refine ⟨i, hi, ⟨w, fun x hx => w1 x (List.mem_cons_of_mem _ hx), by omega, w3⟩, fun v v1 v2 => ?_⟩
    have := wm (i :: v) (fun x hx => by
      rcases List.mem_cons.mp hx with z | z
      · rw [z]
        exact hi
      · exact v1 x z) v2
    have e2 : (i :: v).length = v.length + 1 := rfl
    omega
/-- what is in the table is right: distances up to D + 1, all up to D -/
def tbD (M : mm_M) (D : Nat) : Prop := (∀ r s, r < 720 → s < 16 → nb (M.2 64 r) s ≠ 0 → ∃ k d, symK k ∧ rkK k = r ∧ sgN k = s ∧ M.1 63 r = nI (kK (un4 k)) ∧ d ≤ D + 1 ∧ dlS stZ k4e k d ∧ nb (M.2 64 r) s = d + 1) ∧ ∀ k d, symK k → d ≤ D → dlS stZ k4e k d → dOf M k = d + 1
theorem tb_k {M : mm_M} {D : Nat} (h : tbD M D) {k : K4} (hk : symK k) (h0 : dOf M k ≠ 0) : ∃ d, d ≤ D + 1 ∧ dlS stZ k4e k d ∧ dOf M k = d + 1 := by
  obtain ⟨k', d, a, b, c, _, e, f, g⟩ := h.1 (rkK k) (sgN k) (rkK_l hk) (sgN_l hk.1) h0
  have := rs_i a hk b c
  subst this
  exact ⟨d, e, f, g⟩
/-- spreading one step back from keys at distance D keeps it -/
theorem tbD_s {M N : mm_M} {D i R : Nat} {f : Nat → Bool} {u : K4} (h : tbD M D) (hi : i < 5) (hu : symK u) (hru : rkK u = R) (hf : ∀ s, s < 16 → (f s = true ↔ ∃ k, symK k ∧ rkK k = R ∧ sgN k = s ∧ dlS stZ k4e k D)) (hne : ∃ s, s < 16 ∧ f s = true) (hF : sdF (rkK (szP (bkG i) (un4 u))) (nI (kK (un4 (szP (bkG i) (un4 u))))) M N) (hN : ∀ p, p < 16 → nb (N.2 64 (rkK (szP (bkG i) (un4 u)))) p = if nb (M.2 64 (rkK (szP (bkG i) (un4 u)))) p = 0 ∧ f (p ^^^ sgN (szP (bkG i) (un4 u))) = true then (D + 1) + 1 else nb (M.2 64 (rkK (szP (bkG i) (un4 u)))) p) : tbD N D ∧ (∀ k, symK k → dOf M k ≠ 0 → dOf N k = dOf M k) ∧ ∀ k, symK k → rkK k = R → dlS stZ k4e k D → dOf N (szP (bkG i) k) ≠ 0 := by
  have g19 := bkG_19 i hi
  generalize hq : szP (bkG i) (un4 u) = q at *
  have hqs : symK q := by rw [← hq]; exact sym_P g19 (sym_un hu)
  -- keys of rank R go to keys of rank q
  have go : ∀ k, symK k → rkK k = R → un4 (szP (bkG i) k) = un4 q ∧ sgN (szP (bkG i) k) = sgN k ^^^ sgN q := by
    intro k hk hr
    have e := ru_i hk hu (hr.trans hru.symm)
    refine ⟨?_, ?_⟩
    · rw [un_P g19 hk.1, e, hq]
    · rw [sg_P g19 hk.1, e, hq]
  have T16 := sgN_l hqs.1
  -- what was known is kept
  have kept : ∀ r s, r < 720 → s < 16 → nb (M.2 64 r) s ≠ 0 → nb (N.2 64 r) s = nb (M.2 64 r) s := by
    intro r s hr hs h0
    by_cases c : r = rkK q
    · subst c
      rw [hN s hs, if_neg (fun w => h0 w.1)]
    · rw [hF.2.2.2 r c]
  have kept2 : ∀ k, symK k → dOf M k ≠ 0 → dOf N k = dOf M k := fun k hk h0 => kept _ _ (rkK_l hk) (sgN_l hk.1) h0
  refine ⟨⟨fun r s hr hs h0 => ?_, fun k d hk hd hdl => ?_⟩, kept2, fun k hk hr hdl => ?_⟩
  · by_cases c : nb (M.2 64 r) s = 0
    · -- new
      have cr : r = rkK q := Classical.byContradiction fun z => h0 (by rw [hF.2.2.2 r z]; exact c)
      subst cr
      have hn := hN s hs
      by_cases c2 : f (s ^^^ sgN q) = true
      · rw [if_pos ⟨c, c2⟩] at hn
        obtain ⟨k, hk, hr', hsk, hdl⟩ := (hf _ (x_16 hs T16)).mp c2
        obtain ⟨g1, g2⟩ := go k hk hr'
        have hk' := sym_P g19 hk
        have er : rkK (szP (bkG i) k) = rkK q := rk_eu g1
        have es : sgN (szP (bkG i) k) = s := by
          rw [g2, hsk, Nat.xor_assoc, Nat.xor_self, Nat.xor_zero]
        obtain ⟨d', _, hd'⟩ := dlx_e hk'
        have hb := (bk_st hi hk.1).1
        have l1 := dl_s hi hd' (by rw [hb]; exact hdl)
        have l2 : ¬ d' ≤ D := fun z => by
          have := h.2 _ d' hk' z hd'
          unfold dOf at this
          rw [er, es] at this
          omega
        have ed : d' = D + 1 := by omega
        subst ed
        refine ⟨szP (bkG i) k, D + 1, hk', er, es, ?_, Nat.le_refl _, hd', hn⟩
        rw [hF.2.1, g1]
        exact up_at
      · rw [if_neg (fun w => c2 w.2)] at hn
        exact absurd (hn.trans c) h0
    · obtain ⟨k, d, a1, a2, a3, a4, a5, a6, a7⟩ := h.1 r s hr hs c
      refine ⟨k, d, a1, a2, a3, ?_, a5, a6, (kept r s hr hs c).trans a7⟩
      rw [hF.2.1]
      by_cases c2 : r = rkK q
      · rw [c2, up_at, ru_i hqs a1 (c2.symm.trans a2.symm)]
      · rw [up_ne c2]
        exact a4
  · have := h.2 k d hk hd hdl
    rw [kept2 k hk (by omega)]
    exact this
  · obtain ⟨g1, g2⟩ := go k hk hr
    have hk' := sym_P g19 hk
    have er : rkK (szP (bkG i) k) = rkK q := rk_eu g1
    have hn := hN _ (sgN_l hk'.1)
    unfold dOf
    rw [er, hn]
    have hfk : f (sgN (szP (bkG i) k) ^^^ sgN q) = true := by
      rw [g2, Nat.xor_assoc, Nat.xor_self, Nat.xor_zero]
      exact (hf _ (sgN_l hk.1)).mpr ⟨k, hk, hr, rfl, hdl⟩
    by_cases c : nb (M.2 64 (rkK q)) (sgN (szP (bkG i) k)) = 0
    · rw [if_pos ⟨c, hfk⟩]
      omega
    · rw [if_neg (fun w => c w.1)]
      exact c
