/-! derive, MERGED: the class lays -/
section MRC
variable {d : Nat} {M : mm_M} {W n c : Nat} {l : List bk_X}
set_option maxRecDepth 100000 in
theorem ct_pe8 {k : List bk_X} {w : Nat} (hw : w < 8) (hl : k.length < 10000) : am_M (d + 2) false nm_X0_putEighths [aR 9, aI (nI w), aI (nI 8)] (dlM M k) (am_q0 (dlM M k)) := by
  refine ⟨rfl, rfl, rfl, fun X hX => am_run hX 60 _ _ _ _ ?_⟩
  conv => whnf
  refine ⟨fun c => absurd c (by decide), fun _ => ?_⟩
  conv => whnf
  refine ⟨fun _ => ?_, fun c => absurd (by decide) c⟩
  conv => whnf
  refine ⟨fun _ => ?_, fun c => absurd rfl c⟩
  conv => whnf
  exact ⟨trivial, rfl, rfl⟩
theorem ct_peV {N : mm_M} {k : List bk_X} {w v : Nat} (hw : w < 8) (hv : v ≤ 8) (hl : k.length < 10000) (hd : drw N k) : am_M (d + 2) false nm_X0_putEighths [aR 9, aI (nI w), aI (nI v)] N (am_q0 (dlM N (k ++ eis (v % 8) w))) := by
  have e := drw_d hd
  by_cases q : v = 8
  · subst q
    have key := ct_pe8 (d := d) (M := N) hw hl
    rw [e] at key
    have e2 : k ++ eis (8 % 8) w = k := List.append_nil k
    rw [e2, e]
    exact key
  · have key := ct_pe (d := d) (M := N) (l := k) (e := v) (by omega) hw hl
    rw [e] at key
    rw [Nat.mod_eq_of_lt (by omega)]
    exact key
/-- what is left of a parity's eighths -/
def leS (z : Nat → bk_X) (S p k : Nat) : Nat := if seS z p k = true then 0 else toS z p S
theorem leS_l (z : Nat → bk_X) (S p k : Nat) : leS z S p k ≤ 8 * S := by
  have := toS_l z p S
  unfold leS
  split <;> omega
set_option maxRecDepth 100000 in
theorem ct_pmO {k : Nat} (w8 : W ≤ 8) (s300 : l.length ≤ 300) (kl : k < l.length) (gk : ogd W (zg l k)) (hm : mgB (zg l k) = true) (hP : pcM M (pSk (zg l) k)) (hT : ∀ p, p < 256 → M.1 16 p = nI (leS (zg l) l.length p k)) (hd : drw M (mgL (zg l) l.length k)) : am_M (d + 4) false nm_X0_putMergedOp [aR 9, aI (nI (bk_p (zg l k)))] M (fun r N => r = .inl none ∧ mrF M N ∧ pcM N (pSk (zg l) (k + 1)) ∧ (∀ p, p < 256 → N.1 16 p = nI (leS (zg l) l.length p (k + 1))) ∧ drw N (mgL (zg l) l.length (k + 1))) := by
  have h8 := w256 w8
  have ow := gk.1
  have kk := ow.1
  have hwl : (zg l k).2.1 < 8 := by have := ow.2.1; omega
  have hml := mgL_l (zg l) l.length k
  have hmg : mgL (zg l) l.length (k + 1) = mgL (zg l) l.length k ++ (if phB (zg l k) = true then (if seS (zg l) (pyK (zg l) k) k = true then [] else eis (mgT (zg l) l.length k) (zg l k).2.1) else [zg l k]) := rfl
  have hse : ∀ p, seS (zg l) p (k + 1) = (seS (zg l) p k || (phB (zg l k) && decide (pyK (zg l) k = p))) := fun _ => rfl
  refine ⟨rfl, rfl, rfl, fun X hX => ?_⟩
  have hst : ((zg l k).1 = 8 ∨ (zg l k).1 = 0) → X 16 [some (aR 9), some (aI (nI (bk_p (zg l k)))), none] [] M := by
    intro h80
    have hnp : phB (zg l k) = false := decide_eq_false (fun he => by
      rcases h80 with z | z
      · exact he (by rw [z]; rfl)
      · exact he (by rw [z]; rfl))
    have key := ct_putL (d := d + 2) (M := M) (l := mgL (zg l) l.length k) (x := zg l k) rfl (by omega)
    rw [drw_d hd] at key
    refine am_run hX 7 _ _ _ _ ?_
    conv => whnf
    refine am_c0 key ?_
    conv => whnf
    have hf := dfF_l M (mgL (zg l) l.length k ++ [zg l k])
    have hP1 : pcM (dlM M (mgL (zg l) l.length k ++ [zg l k])) (pSk (zg l) k) := pcM_f hP (hf.2.2 9 (by decide)) (hf.1 15 (by decide) (by decide))
    refine am_cq (ct_stepP (d := d) w8 gk h80 hP1) fun r1 N1 hq => ?_
    obtain ⟨rfl, p1, p2⟩ := hq
    refine ⟨none, rfl, ?_⟩
    conv => whnf
    refine ⟨trivial, rfl, mrF_t (mrF_d hf) (mrF_p p1), p2, fun p hp => ?_, ?_⟩
    · rw [p1.1 16 (by decide) (by decide), hf.1 16 (by decide) (by decide), hT p hp]
      unfold leS
      rw [hse p, hnp, Bool.false_and, Bool.or_false]
    · rw [hmg, hnp]
      exact drw_f (drw_l M _) (p1.2.2 8 (by decide)) (p1.1 13 (by decide) (by decide))
  refine am_run hX 4 _ _ _ _ ?_
  conv => whnf
  refine am_c1 (ct_kind (d := d + 2)) ?_
  rw [bk_k w8 ow]
  conv => whnf
  rw [show (8 : Int32) = nI 8 from rfl, nI_eq (by omega) (by decide)]
  refine ⟨fun q => hst (Or.inl q), fun q8 => ?_⟩
  refine am_run hX 3 _ _ _ _ ?_
  conv => whnf
  refine am_c1 (ct_kind (d := d + 2)) ?_
  rw [bk_k w8 ow]
  conv => whnf
  rw [show (0 : Int32) = nI 0 from rfl, nI_eq (by omega) (by decide)]
  refine ⟨fun q0 => ?_, fun q => hst (Or.inr (Decidable.byContradiction q))⟩
  have heg : egN (zg l k).1 ≠ 0 := by
    have := of_decide_eq_true hm
    rcases this with z | ⟨_, z | z⟩
    · exact absurd z.1 q0
    · exact absurd z q8
    · exact z
  have hphB : phB (zg l k) = true := decide_eq_true heg
  have hpy : pyK (zg l) k < 256 := (hP.1 _ hwl).2
  have e15 : M.1 15 (nI (zg l k).2.1).toNatClampNeg = nI (pyK (zg l) k) := by
    rw [nI_clamp (by omega)]
    exact (hP.1 _ hwl).1
  have hle := leS_l (zg l) l.length (pyK (zg l) k) k
  refine am_run hX 18 _ _ _ _ ?_
  conv => whnf
  refine am_c1 (ct_wireOf (d := d + 2)) ?_
  rw [bk_wi w8 ow]
  conv => whnf
  refine ⟨vp_in_nI (by show (zg l k).2.1 < 8; exact hwl) (by decide), ?_⟩
  conv => whnf
  rw [e15]
  refine ⟨vp_in_nI (by show pyK (zg l) k < 256; exact hpy) (by decide), ?_⟩
  conv => whnf
  rw [nI_clamp (n := pyK (zg l) k) (by omega), hT _ hpy, nI_m7]
  refine am_c1 (ct_seen (d := d + 2) hP hwl (by omega)) ?_
  conv => whnf
  generalize hv : (if (pSk (zg l) k).2 (zg l k).2.1 = true then 8 - leS (zg l) l.length (pyK (zg l) k) k % 8 else leS (zg l) l.length (pyK (zg l) k) k % 8) = v
  have v8 : v ≤ 8 := by
    rw [← hv]
    split <;> omega
  refine am_c0 (ct_peV (d := d + 1) (N := M) hwl v8 (by omega) hd) ?_
  have hf := dfF_l M (mgL (zg l) l.length k ++ eis (v % 8) (zg l k).2.1)
  have f15 := hf.1 15 (by decide) (by decide)
  have f16 := hf.1 16 (by decide) (by decide)
  refine am_run hX 9 _ _ _ _ ?_
  conv => whnf
  refine ⟨vp_in_nI (by show (zg l k).2.1 < 8; exact hwl) (by decide), ?_⟩
  conv => whnf
  rw [f15, e15]
  refine ⟨vp_in_nI (by show pyK (zg l) k < 256; exact hpy) (by decide), ?_⟩
  conv => whnf
  rw [nI_clamp (n := pyK (zg l) k) (by omega)]
  have hP1 : pcM (dlM M (mgL (zg l) l.length k ++ eis (v % 8) (zg l k).2.1)) (pSk (zg l) k) := pcM_f hP (hf.2.2 9 (by decide)) f15
  have es : pSk (zg l) (k + 1) = pSk (zg l) k := pst_ph hphB
  refine ⟨trivial, rfl, mrF_t (mrF_d hf) mrF_i, ?_, fun p hp => ?_, ?_⟩
  · rw [es]
    exact hP1
  · rw [mm_i1]
    by_cases q : p = pyK (zg l) k
    · have e0 : leS (zg l) l.length p (k + 1) = 0 := by
        unfold leS
        rw [hse p, hphB, decide_eq_true q.symm, Bool.true_and, Bool.or_true, if_pos rfl]
      rw [e0, q]
      exact if_pos rfl
    · have e0 : leS (zg l) l.length p (k + 1) = leS (zg l) l.length p k := by
        unfold leS
        rw [hse p, decide_eq_false (fun z => q z.symm), Bool.and_false, Bool.or_false]
      rw [e0]
      refine (if_neg q).trans ?_
      rw [f16]
      exact hT p hp
  · have e1 : mgL (zg l) l.length (k + 1) = mgL (zg l) l.length k ++ eis (v % 8) (zg l k).2.1 := by
      rw [hmg, if_pos hphB]
      congr 1
      by_cases q : seS (zg l) (pyK (zg l) k) k = true
      · rw [if_pos q]
        have e0 : leS (zg l) l.length (pyK (zg l) k) k = 0 := if_pos q
        rw [e0] at hv
        have : v % 8 = 0 := by
          rw [← hv]
          split <;> rfl
        rw [this]
        rfl
      · rw [if_neg q]
        have e0 : leS (zg l) l.length (pyK (zg l) k) k = toS (zg l) (pyK (zg l) k) l.length := if_neg q
        rw [e0] at hv
        congr 1
        unfold mgT
        rw [← hv]
        split
        · rfl
        · omega
    rw [e1]
    exact drw_l M _
set_option maxRecDepth 100000 in
theorem pmg_2 {P : am_Q} {X : am_X} {l3 l4 l5 : Option am_V} (hX : am_K (d + 5) false nm_X0_putMerged P X) (hb : bk_iv M n) (hc : c < n) (hC : bk_c M c W l.length) (hl : opsL M c W l) (ho : allO W l) (hm : ∀ j, j < l.length → mgB (zg l j) = true) (hK : ∀ N, mrF M N → drw N (mgL (zg l) l.length l.length) → P (.inl (some (aI 1))) N) : ∀ (m k : Nat) (N : mm_M), k + m = l.length → mrF M N → pcM N (pSk (zg l) k) → (∀ p, p < 256 → N.1 16 p = nI (leS (zg l) l.length p k)) → drw N (mgL (zg l) l.length k) → X 148 [some (aR 9), some (aI (nI c)), some (aI (nI k)), l3, l4, l5] [] N := by
  have w8 := hC.2.1
  have n20 := hb.1
  have s300 := hC.2.2.1
  intro m
  induction m with
  | zero =>
    intro k N hk hF hP hT hd
    obtain rfl : k = l.length := by omega
    have h11 : N.1 11 c = nI l.length := by rw [hF.1 11 (by decide) (by decide) (by decide) (by decide)]; exact hl.1
    refine am_run hX 8 _ _ _ _ ?_
    conv => whnf
    refine ⟨vp_in_nI (by show c < 20; omega) (by decide), ?_⟩
    conv => whnf
    rw [nI_clamp (n := c) (by omega), h11]
    refine ⟨fun _ => ?_, fun q => absurd (nI_le (Nat.le_refl _) (by omega)) q⟩
    conv => whnf
    exact ⟨rfl, hK N hF hd⟩
  | succ m ih =>
    intro k N hk hF hP hT hd
    have kl : k < l.length := by omega
    have h11 : N.1 11 c = nI l.length := by rw [hF.1 11 (by decide) (by decide) (by decide) (by decide)]; exact hl.1
    have e10 : N.1 10 (300 * c + k) = nI (bk_p (zg l k)) := by rw [hF.1 10 (by decide) (by decide) (by decide) (by decide)]; exact (hl.2.2.2 k kl).2.1
    refine am_run hX 6 _ _ _ _ ?_
    conv => whnf
    refine ⟨vp_in_nI (by show c < 20; omega) (by decide), ?_⟩
    conv => whnf
    rw [nI_clamp (n := c) (by omega), h11]
    refine ⟨fun q => absurd q (nI_ge (by omega) (by omega)), fun _ => ?_⟩
    refine am_run hX 6 _ _ _ _ ?_
    conv => whnf
    refine am_c1 (bk_at (d := d + 2) (bkF_i (mrF_b hF) hb) hc (bkF_c (mrF_b hF) hC) kl) ?_
    rw [e10]
    conv => whnf
    refine am_cq (ct_pmO (d := d + 1) w8 s300 kl (ho k kl).1 (hm k kl) hP hT hd) fun r1 N1 hq => ?_
    obtain ⟨rfl, g1, g2, g3, g4⟩ := hq
    refine ⟨none, rfl, ?_⟩
    refine am_run hX 2 _ _ _ _ ?_
    conv => whnf
    rw [nI_1]
    exact ih (k + 1) N1 (by omega) (mrF_t hF g1) g2 g3 g4
/-- all can be MERGED -/
def mgA (l : List bk_X) : Prop := ∀ j, j < l.length → mgB (zg l j) = true
set_option maxRecDepth 100000 in
theorem ct_putMg (hb : bk_iv M n) (hc : c < n) (hC : bk_c M c W l.length) (hl : opsL M c W l) (ho : allO W l) (hd : drw M []) : am_M (d + 6) false nm_X0_putMerged [aR 9, aI (nI c)] M (fun r N => mrF M N ∧ ((mgA l ∧ r = .inl (some (aI 1)) ∧ drw N (mgL (zg l) l.length l.length)) ∨ (¬ mgA l ∧ r = .inl (some (aI 0))))) := by
  refine ⟨rfl, rfl, rfl, fun X hX => am_run hX 6 _ _ _ _ ?_⟩
  conv => whnf
  refine am_c0 (ct_fi16 (d := d + 4) (v := 0)) ?_
  conv => whnf
  refine am_cq (ct_stPa (d := d + 4) (M := mm_i M 16 (fun j => if j < 256 then 0 else M.1 16 j))) fun r1 N1 hq => ?_
  obtain ⟨rfl, p1, p2⟩ := hq
  refine ⟨none, rfl, ?_⟩
  refine am_run hX 2 _ _ _ _ ?_
  conv => whnf
  have hF1 : mrF M N1 := mrF_t mrF_i (mrF_p p1)
  refine pmg_1 (d := d + 1) (M := M) hX hb hc hC hl ho (fun hno N a b c => ⟨a, Or.inr ⟨fun q => ?_, rfl⟩⟩) (fun hm N hF f8 f13 hT l3 l4 l5 => ?_) l.length 0 N1 none none none (by omega) hF1 ?_ ?_ p2 (fun p hp => ?_) (fun j hj => absurd hj (Nat.not_lt_zero _))
  · obtain ⟨j, j1, j2⟩ := hno
    rw [q j j1] at j2
    cases j2
  · refine am_run hX 2 _ _ _ _ ?_
    conv => whnf
    refine am_cq (ct_stPa (d := d + 4) (M := N)) fun r2 N2 hq => ?_
    obtain ⟨rfl, u1, u2⟩ := hq
    refine ⟨none, rfl, ?_⟩
    refine am_run hX 2 _ _ _ _ ?_
    conv => whnf
    refine pmg_2 (d := d) (M := M) hX hb hc hC hl ho hm (fun N3 a b => ⟨a, Or.inl ⟨hm, rfl, b⟩⟩) l.length 0 N2 (by omega) (mrF_t hF (mrF_p u1)) u2 (fun p hp => ?_) ?_
    · rw [u1.1 16 (by decide) (by decide), hT p hp]
      rfl
    · exact drw_f hd ((u1.2.2 8 (by decide)).trans f8) ((u1.1 13 (by decide) (by decide)).trans f13)
  · exact p1.2.2 8 (by decide)
  · exact p1.1 13 (by decide) (by decide)
  · rw [p1.1 16 (by decide) (by decide), mm_i1]
    exact if_pos hp
end MRC
