/-! derive, MERGED: the class -/
/-- parities ahead of OP k -/
def pSk (z : Nat → bk_X) : Nat → (Nat → Nat) × (Nat → Bool)
  | 0 => (fun i => 2 ^ i, fun _ => false)
  | k + 1 => pst (pSk z k) (z k)
def phB (x : bk_X) : Bool := decide (egN x.1 ≠ 0)
def pyK (z : Nat → bk_X) (k : Nat) : Nat := (pSk z k).1 (z k).2.1
def cEk (z : Nat → bk_X) (k : Nat) : Nat := if (pSk z k).2 (z k).2.1 = true then 8 - egN (z k).1 else egN (z k).1
/-- all eighths of a parity -/
def toS (z : Nat → bk_X) (p : Nat) : Nat → Nat
  | 0 => 0
  | k + 1 => toS z p k + (if phB (z k) = true ∧ pyK z k = p then cEk z k else 0)
def seS (z : Nat → bk_X) (p : Nat) : Nat → Bool
  | 0 => false
  | k + 1 => seS z p k || (phB (z k) && decide (pyK z k = p))
def mgT (z : Nat → bk_X) (S k : Nat) : Nat := if (pSk z k).2 (z k).2.1 = true then (8 - toS z (pyK z k) S % 8) % 8 else toS z (pyK z k) S % 8
def mgL (z : Nat → bk_X) (S : Nat) : Nat → List bk_X
  | 0 => []
  | k + 1 => mgL z S k ++ (if phB (z k) = true then (if seS z (pyK z k) k = true then [] else eis (mgT z S k) (z k).2.1) else [z k])
theorem cE_8 (z : Nat → bk_X) (k : Nat) : cEk z k ≤ 8 := by
  have := eg_7 (z k).1
  unfold cEk
  split <;> omega
theorem toS_l (z : Nat → bk_X) (p : Nat) : ∀ k, toS z p k ≤ 8 * k
  | 0 => Nat.le_refl _
  | k + 1 => by
    have := toS_l z p k
    have := cE_8 z k
    show toS z p k + (if phB (z k) = true ∧ pyK z k = p then cEk z k else 0) ≤ _
    split <;> omega
theorem mgL_l (z : Nat → bk_X) (S : Nat) : ∀ k, (mgL z S k).length ≤ 2 * k
  | 0 => Nat.le_refl _
  | k + 1 => by
    have := mgL_l z S k
    have h2 := eis_n (mgT z S k) (z k).2.1
    show (mgL z S k ++ _).length ≤ _
    rw [List.length_append]
    split
    · split
      · show _ + 0 ≤ _
        omega
      · omega
    · show _ + 1 ≤ _
      omega
theorem pSk_l {W S : Nat} {z : Nat → bk_X} (hW : W ≤ 8) (hz : ∀ j, j < S → ogd W (z j)) : ∀ k, k ≤ S → ∀ i, i < 8 → (pSk z k).1 i < 256
  | 0, _, i, hi => p2_8 hi
  | k + 1, hk, i, hi => pst_l (pSk_l hW hz k (by omega)) hW (hz k (by omega)) i hi
theorem pst_ph {σ : (Nat → Nat) × (Nat → Bool)} {x : bk_X} (h : phB x = true) : pst σ x = σ := by
  have he := of_decide_eq_true h
  unfold pst
  have h8 : x.1 ≠ 8 := fun q => he (by rw [q]; rfl)
  have h0 : x.1 ≠ 0 := fun q => he (by rw [q]; rfl)
  rw [if_neg h8, if_neg h0]
/-- the bank is as it was -/
def bkF (M N : mm_M) : Prop := (∀ k, k = 10 ∨ k = 11 ∨ k = 12 ∨ (110 ≤ k ∧ k ≤ 117) → N.1 k = M.1 k) ∧ N.1 9 7 = M.1 9 7 ∧ N.1 108 6 = M.1 108 6
theorem bkF_o {M N : mm_M} {a : Nat} {x : bk_X} (h : bkF M N) (hx : bk_o M a x) : bk_o N a x := by
  unfold bk_o at hx ⊢
  rw [h.1 10 (by omega), h.1 112 (by omega), h.1 113 (by omega), h.1 114 (by omega), h.1 115 (by omega), h.1 116 (by omega), h.1 117 (by omega)]
  exact hx
theorem bkF_c {M N : mm_M} {c W S : Nat} (h : bkF M N) (hc : bk_c M c W S) : bk_c N c W S := by
  obtain ⟨a1, a2, a3, a4, a5, a6, a7, a8⟩ := hc
  exact ⟨a1, a2, a3, by rw [h.1 12 (by omega)]; exact a4, by rw [h.1 110 (by omega)]; exact a5, by rw [h.1 11 (by omega)]; exact a6, by rw [h.1 111 (by omega)]; exact a7, fun j hj => by
    obtain ⟨x, x1, x2⟩ := a8 j hj
    exact ⟨x, x1, bkF_o h x2⟩⟩
theorem bkF_i {M N : mm_M} {n : Nat} (h : bkF M N) (hb : bk_iv M n) : bk_iv N n := by
  obtain ⟨a1, a2, a3, a4⟩ := hb
  exact ⟨a1, h.2.1.trans a2, h.2.2.trans a3, fun i hi => by
    obtain ⟨W, S, hc⟩ := a4 i hi
    exact ⟨W, S, bkF_c h hc⟩⟩
/-- what merging may change -/
def mrF (M N : mm_M) : Prop := (∀ k, k ≠ 9 → k ≠ 13 → k ≠ 15 → k ≠ 16 → N.1 k = M.1 k) ∧ N.2 = M.2 ∧ ∀ y, y ≠ 8 → y ≠ 9 → N.1 9 y = M.1 9 y
theorem mrF_r (M : mm_M) : mrF M M := ⟨fun _ _ _ _ _ => rfl, rfl, fun _ _ _ => rfl⟩
theorem mrF_t {M N K : mm_M} (h : mrF M N) (g : mrF N K) : mrF M K := ⟨fun k a b c e => (g.1 k a b c e).trans (h.1 k a b c e), g.2.1.trans h.2.1, fun y a b => (g.2.2 y a b).trans (h.2.2 y a b)⟩
theorem mrF_p {M N : mm_M} (h : paF M N) : mrF M N := ⟨fun k a _ c _ => h.1 k a c, h.2.1, fun y _ b => h.2.2 y b⟩
theorem mrF_d {M N : mm_M} (h : dfF M N) : mrF M N := ⟨fun k a b _ _ => h.1 k a b, h.2.1, fun y a _ => h.2.2 y a⟩
theorem mrF_i {M : mm_M} {f : Nat → Int32} : mrF M (mm_i M 16 f) := ⟨fun j _ _ _ e => mm_ne _ _ _ _ e, rfl, fun y _ _ => by rw [mm_ne _ _ _ _ (by decide)]⟩
theorem mrF_b {M N : mm_M} (h : mrF M N) : bkF M N := ⟨fun k hk => h.1 k (by omega) (by omega) (by omega) (by omega), h.2.2 7 (by decide) (by decide), by rw [h.1 108 (by decide) (by decide) (by decide) (by decide)]⟩
/-- a draft of any length -/
def drw (N : mm_M) (l : List bk_X) : Prop := N.1 9 8 = nI l.length ∧ ∀ j, j < min l.length 300 → N.1 13 j = nI (bk_p (zg l j))
theorem drw_d {N : mm_M} {l : List bk_X} (h : drw N l) : dlM N l = N := by
  unfold dlM
  have e1 : dwR (N.1 13) (fun j => nI (bk_p (zg l j))) (min l.length 300) = N.1 13 := by
    funext j
    unfold dwR
    by_cases q : j < min l.length 300
    · rw [if_pos q]
      exact (h.2 j q).symm
    · rw [if_neg q]
  have e2 : upd (N.1 9) 8 (nI l.length) = N.1 9 := by
    funext j
    unfold upd
    by_cases q : j = 8
    · rw [if_pos q, q, h.1]
    · rw [if_neg q]
  rw [e1, e2, mm_iz, mm_iz]
theorem drw_l (N : mm_M) (l : List bk_X) : drw (dlM N l) l := by
  refine ⟨?_, fun j hj => ?_⟩
  · rw [dl_9]
    exact if_pos rfl
  · rw [dl_13]
    exact if_pos hj
theorem dfF_l (N : mm_M) (l : List bk_X) : dfF N (dlM N l) := ⟨fun k a b => dl_r N l b a, rfl, fun y hy => by rw [dl_9]; exact if_neg hy⟩
theorem drw_f {N K : mm_M} {l : List bk_X} (h : drw N l) (e1 : K.1 9 8 = N.1 9 8) (e2 : K.1 13 = N.1 13) : drw K l := ⟨e1.trans h.1, fun j hj => by rw [e2]; exact h.2 j hj⟩
theorem pcM_f {N K : mm_M} {σ : (Nat → Nat) × (Nat → Bool)} (h : pcM N σ) (e1 : K.1 9 9 = N.1 9 9) (e2 : K.1 15 = N.1 15) : pcM K σ := by
  obtain ⟨a, r, b, c, e⟩ := h
  exact ⟨fun i hi => by rw [e2]; exact a i hi, r, b, e1.trans c, e⟩
section MRB
variable {d : Nat} {M : mm_M} {W n c : Nat} {l : List bk_X}
set_option maxRecDepth 100000 in
theorem pmg_1 {P : am_Q} {X : am_X} (hX : am_K (d + 4) false nm_X0_putMerged P X) (hb : bk_iv M n) (hc : c < n) (hC : bk_c M c W l.length) (hl : opsL M c W l) (ho : allO W l) (hN : (∃ j, j < l.length ∧ mgB (zg l j) = false) → ∀ N, mrF M N → N.1 9 8 = M.1 9 8 → N.1 13 = M.1 13 → P (.inl (some (aI 0))) N) (hK : (∀ j, j < l.length → mgB (zg l j) = true) → ∀ N, mrF M N → N.1 9 8 = M.1 9 8 → N.1 13 = M.1 13 → (∀ p, p < 256 → N.1 16 p = nI (toS (zg l) p l.length)) → ∀ l3 l4 l5, X 142 [some (aR 9), some (aI (nI c)), some (aI (nI l.length)), l3, l4, l5] [] N) : ∀ (m k : Nat) (N : mm_M) (l3 l4 l5 : Option am_V), k + m = l.length → mrF M N → N.1 9 8 = M.1 9 8 → N.1 13 = M.1 13 → pcM N (pSk (zg l) k) → (∀ p, p < 256 → N.1 16 p = nI (toS (zg l) p k)) → (∀ j, j < k → mgB (zg l j) = true) → X 14 [some (aR 9), some (aI (nI c)), some (aI (nI k)), l3, l4, l5] [] N := by
  have w8 := hC.2.1
  have h8 := w256 w8
  have n20 := hb.1
  have s300 := hC.2.2.1
  intro m
  induction m with
  | zero =>
    intro k N l3 l4 l5 hk hF f8 f13 hP hT hM
    obtain rfl : k = l.length := by omega
    have h11 : N.1 11 c = nI l.length := by rw [hF.1 11 (by decide) (by decide) (by decide) (by decide)]; exact hl.1
    refine am_run hX 6 _ _ _ _ ?_
    conv => whnf
    refine ⟨vp_in_nI (by show c < 20; omega) (by decide), ?_⟩
    conv => whnf
    rw [nI_clamp (n := c) (by omega), h11]
    exact ⟨fun _ => hK hM N hF f8 f13 hT _ _ _, fun q => absurd (nI_le (Nat.le_refl _) (by omega)) q⟩
  | succ m ih =>
    intro k N l3 l4 l5 hk hF f8 f13 hP hT hM
    have kl : k < l.length := by omega
    have h11 : N.1 11 c = nI l.length := by rw [hF.1 11 (by decide) (by decide) (by decide) (by decide)]; exact hl.1
    have gk := (ho k kl).1
    have ow := gk.1
    have kk := ow.1
    have hwl : (zg l k).2.1 < 8 := by have := ow.2.1; omega
    have hcl := ow.2.2.2.1
    have e10 : N.1 10 (300 * c + k) = nI (bk_p (zg l k)) := by rw [hF.1 10 (by decide) (by decide) (by decide) (by decide)]; exact (hl.2.2.2 k kl).2.1
    have hpc := pc_f (zg l k).2.2.2.1 (by omega)
    refine am_run hX 6 _ _ _ _ ?_
    conv => whnf
    refine ⟨vp_in_nI (by show c < 20; omega) (by decide), ?_⟩
    conv => whnf
    rw [nI_clamp (n := c) (by omega), h11]
    refine ⟨fun q => absurd q (nI_ge (by omega) (by omega)), fun _ => ?_⟩
    refine am_run hX 4 _ _ _ _ ?_
    conv => whnf
    refine am_c1 (bk_at (d := d + 1) (bkF_i (mrF_b hF) hb) hc (bkF_c (mrF_b hF) hC) kl) ?_
    rw [e10]
    refine am_run hX 3 _ _ _ _ ?_
    conv => whnf
    refine am_c1 (ct_kind (d := d + 3)) ?_
    rw [bk_k w8 ow]
    -- the next OP
    have hnext : ∀ (N' : mm_M) (l4 l5 : Option am_V), mrF M N' → N'.1 9 8 = M.1 9 8 → N'.1 13 = M.1 13 → pcM N' (pSk (zg l) (k + 1)) → (∀ p, p < 256 → N'.1 16 p = nI (toS (zg l) p (k + 1))) → mgB (zg l k) = true → X 136 [some (aR 9), some (aI (nI c)), some (aI (nI k)), some (aI (nI (bk_p (zg l k)))), l4, l5] [] N' := by
      intro N' l4 l5 a1 a2 a3 a4 a5 a6
      refine am_run hX 2 _ _ _ _ ?_
      conv => whnf
      rw [nI_1]
      refine ih (k + 1) N' _ _ _ (by omega) a1 a2 a3 a4 a5 (fun j hj => ?_)
      by_cases q : j = k
      · subst q
        exact a6
      · exact hM j (by omega)
    -- behind the kind
    have hsteps : ∀ v : Int32, v = (if (zg l k).1 = 8 ∨ (zg l k).1 = 0 then 1 else 0) → X 54 [some (aR 9), some (aI (nI c)), some (aI (nI k)), some (aI (nI (bk_p (zg l k)))), some (aI (nI (zg l k).1)), l5] [aI v] N := by
      intro v hv
      refine am_run hX 6 _ _ _ _ ?_
      conv => whnf
      refine am_c1 (ct_controlsOf (d := d + 3)) ?_
      rw [bk_cc w8 ow]
      conv => whnf
      refine am_c1 (ct_bit16 (d + 3) (zg l k).2.2.2.1 (by omega) N) ?_
      conv => whnf
      rw [show (0 : Int32) = nI 0 from rfl, nI_eq (by omega) (by decide)]
      -- refused
      have hno : mgB (zg l k) = false → X 90 [some (aR 9), some (aI (nI c)), some (aI (nI k)), some (aI (nI (bk_p (zg l k)))), some (aI (nI (zg l k).1)), some (aI v)] [] N := by
        intro q
        refine am_run hX 2 _ _ _ _ ?_
        conv => whnf
        exact ⟨rfl, hN ⟨k, kl, q⟩ N hF f8 f13⟩
      -- steps
      have hst : ((zg l k).1 = 8 ∨ (zg l k).1 = 0) → mgB (zg l k) = true → X 92 [some (aR 9), some (aI (nI c)), some (aI (nI k)), some (aI (nI (bk_p (zg l k)))), some (aI (nI (zg l k).1)), some (aI v)] [] N := by
        intro h80 hm
        rw [if_pos h80] at hv
        subst hv
        refine am_run hX 2 _ _ _ _ ?_
        conv => whnf
        refine ⟨fun q => absurd q (by decide), fun _ => ?_⟩
        refine am_run hX 4 _ _ _ _ ?_
        conv => whnf
        refine am_cq (ct_stepP (d := d + 1) w8 gk h80 hP) fun r1 N1 hq => ?_
        obtain ⟨rfl, p1, p2⟩ := hq
        refine ⟨none, rfl, ?_⟩
        conv => whnf
        refine hnext N1 _ _ (mrF_t hF (mrF_p p1)) ((p1.2.2 8 (by decide)).trans f8) ((p1.1 13 (by decide) (by decide)).trans f13) p2 (fun p hp => ?_) hm
        rw [p1.1 16 (by decide) (by decide), hT p hp]
        show _ = nI (toS (zg l) p k + _)
        have hnp : ¬ (phB (zg l k) = true ∧ pyK (zg l) k = p) := fun q => by
          have he := of_decide_eq_true q.1
          rcases h80 with z | z
          · exact he (by rw [z]; rfl)
          · exact he (by rw [z]; rfl)
        rw [if_neg hnp, Nat.add_zero]
      -- eighths
      have hph : ¬ ((zg l k).1 = 8 ∨ (zg l k).1 = 0) → egN (zg l k).1 ≠ 0 → mgB (zg l k) = true → X 92 [some (aR 9), some (aI (nI c)), some (aI (nI k)), some (aI (nI (bk_p (zg l k)))), some (aI (nI (zg l k).1)), some (aI v)] [] N := by
        intro h80 heg hm
        rw [if_neg h80] at hv
        subst hv
        have hpy : (pSk (zg l) k).1 (zg l k).2.1 < 256 := (hP.1 _ hwl).2
        have e15 : N.1 15 (nI (zg l k).2.1).toNatClampNeg = nI (pyK (zg l) k) := by
          rw [nI_clamp (by omega)]
          exact (hP.1 _ hwl).1
        have hpy' : pyK (zg l) k < 256 := hpy
        have htl := toS_l (zg l) (pyK (zg l) k) k
        have hphB : phB (zg l k) = true := decide_eq_true heg
        refine am_run hX 2 _ _ _ _ ?_
        conv => whnf
        refine ⟨fun _ => ?_, fun q => absurd rfl q⟩
        refine am_run hX 18 _ _ _ _ ?_
        conv => whnf
        refine am_c1 (ct_wireOf (d := d + 3)) ?_
        rw [bk_wi w8 ow]
        conv => whnf
        refine ⟨vp_in_nI (by show (zg l k).2.1 < 8; exact hwl) (by decide), ?_⟩
        conv => whnf
        rw [e15]
        refine ⟨vp_in_nI (by show pyK (zg l) k < 256; exact hpy') (by decide), ?_⟩
        conv => whnf
        refine am_c1 (ct_wireOf (d := d + 3)) ?_
        rw [bk_wi w8 ow]
        conv => whnf
        refine ⟨vp_in_nI (n := (zg l k).1) (N := 11) (by omega) (by decide), ?_⟩
        conv => whnf
        rw [show (fun j => xp_a1.getD j 0) (nI (zg l k).1).toNatClampNeg = nI (egN (zg l k).1) from by rw [nI_clamp (by omega)]; exact a1_e _ (by omega)]
        refine am_c1 (ct_seen (d := d + 3) hP hwl (by have := eg_7 (zg l k).1; omega)) ?_
        conv => whnf
        refine ⟨vp_in_nI (by show pyK (zg l) k < 256; exact hpy') (by decide), ?_⟩
        conv => whnf
        rw [nI_clamp (n := pyK (zg l) k) (by omega), hT _ hpy', nI_add, show (if (pSk (zg l) k).2 (zg l k).2.1 = true then 8 - egN (zg l k).1 else egN (zg l k).1) = cEk (zg l) k from rfl]
        refine hnext _ _ _ (mrF_t hF mrF_i) f8 f13 ?_ (fun p hp => ?_) hm
        · have es : pSk (zg l) (k + 1) = pSk (zg l) k := pst_ph hphB
          rw [es]
          exact hP
        · rw [mm_i1]
          show _ = nI (toS (zg l) p k + _)
          by_cases q : p = pyK (zg l) k
          · have e5 : (if phB (zg l k) = true ∧ pyK (zg l) k = p then cEk (zg l) k else 0) = cEk (zg l) k := if_pos ⟨hphB, q.symm⟩
            rw [e5, q]
            exact if_pos rfl
          · have e5 : (if phB (zg l k) = true ∧ pyK (zg l) k = p then cEk (zg l) k else 0) = 0 := if_neg (fun z => q z.2.symm)
            rw [e5, Nat.add_zero]
            exact (if_neg q).trans (hT p hp)
      refine ⟨fun h0 => ?_, fun h0 => ?_⟩
      · -- no x
        refine am_run hX 2 _ _ _ _ ?_
        conv => whnf
        refine ⟨fun q => ?_, fun q => ?_⟩
        · have q : ¬ pc (zg l k).2.2.2.1 = 0 := fun z => by
            rw [z] at q
            exact absurd q (by decide)
          refine hno (decide_eq_false (fun z => ?_))
          rcases z with z | z
          · exact h0 z.1
          · exact q (by rw [z.1]; decide)
        · have hz : (zg l k).2.2.2.1 = 0 := by
            apply Classical.byContradiction
            intro z
            have := hpc.2 z
            exact q (nI_lt (a := 0) (b := pc (zg l k).2.2.2.1) (by omega) (by omega))
          by_cases h8' : (zg l k).1 = 8
          · have hv1 : v = 1 := by rw [hv, if_pos (Or.inl h8')]
            rw [hv1]
            rw [hv1] at hst
            refine am_run hX 2 _ _ _ _ ?_
            conv => whnf
            refine ⟨fun _ => ?_, fun z => absurd (by decide) z⟩
            exact hst (Or.inl h8') (decide_eq_true (Or.inr ⟨hz, Or.inl h8'⟩))
          · have hv0 : v = 0 := by rw [hv, if_neg (fun z => z.elim h8' h0)]
            rw [hv0]
            rw [hv0] at hph hno
            refine am_run hX 2 _ _ _ _ ?_
            conv => whnf
            refine ⟨fun z => absurd rfl z, fun _ => ?_⟩
            refine am_run hX 4 _ _ _ _ ?_
            conv => whnf
            refine ⟨vp_in_nI (n := (zg l k).1) (N := 11) (by omega) (by decide), ?_⟩
            conv => whnf
            rw [show (fun j => xp_a1.getD j 0) (nI (zg l k).1).toNatClampNeg = nI (egN (zg l k).1) from by rw [nI_clamp (by omega)]; exact a1_e _ (by omega), show (0 : Int32) = nI 0 from rfl, nI_eq (by have := eg_7 (zg l k).1; omega) (by decide)]
            refine ⟨fun z => ?_, fun z => ?_⟩
            · exact hph (fun y => y.elim h8' h0) z (decide_eq_true (Or.inr ⟨hz, Or.inr z⟩))
            · refine hno (decide_eq_false (fun y => ?_))
              rcases y with y | ⟨_, y | y⟩
              · exact h0 y.1
              · exact h8' y
              · exact y (Decidable.byContradiction z)
      · have h0 := Decidable.byContradiction h0
        have hv1 : v = 1 := by rw [hv, if_pos (Or.inr h0)]
        rw [hv1]
        rw [hv1] at hst hno
        refine am_run hX 3 _ _ _ _ ?_
        conv => whnf
        refine ⟨fun q => ?_, fun q => ?_⟩
        · have q : ¬ pc (zg l k).2.2.2.1 ≤ 1 := fun z => absurd q (nI_nlt (a := 1) (b := pc (zg l k).2.2.2.1) (by omega) (by omega))
          refine hno (decide_eq_false (fun z => ?_))
          rcases z with z | z
          · exact q z.2
          · exact q (by rw [z.1]; decide)
        · have q : pc (zg l k).2.2.2.1 ≤ 1 := by
            apply Classical.byContradiction
            intro z
            exact q (nI_lt (a := 1) (b := pc (zg l k).2.2.2.1) (by omega) (by omega))
          refine am_run hX 2 _ _ _ _ ?_
          conv => whnf
          refine ⟨fun _ => ?_, fun z => absurd (by decide) z⟩
          exact hst (Or.inr h0) (decide_eq_true (Or.inl ⟨h0, q⟩))
    refine am_run hX 4 _ _ _ _ ?_
    conv => whnf
    rw [show (8 : Int32) = nI 8 from rfl, nI_eq (by omega) (by decide)]
    refine ⟨fun q => ?_, fun q => ?_⟩
    · refine am_run hX 2 _ _ _ _ ?_
      conv => whnf
      exact hsteps 1 (by rw [if_pos (Or.inl q)])
    · refine am_run hX 2 _ _ _ _ ?_
      conv => whnf
      rw [show (0 : Int32) = nI 0 from rfl, nI_eq (by omega) (by decide)]
      refine ⟨fun z => ?_, fun z => ?_⟩
      · refine am_run hX 1 _ _ _ _ ?_
        conv => whnf
        exact hsteps 0 (by rw [if_neg (fun y => y.elim q z)])
      · refine am_run hX 2 _ _ _ _ ?_
        conv => whnf
        exact hsteps 1 (by rw [if_pos (Or.inr (Decidable.byContradiction z))])
end MRB
