/-! DIAGRAMS: drawing one, the reference -/
def rwD (N : mm_M) (inp : Nat) (W : WB) : Prop := N.1 108 99 = nI inp ∧ (∀ i, i < 60 → N.1 169 i = if W.1 i = true then 1 else 0) ∧ (∀ i, W.1 i = true → N.1 170 i = nI (W.2.1 i)) ∧ ∀ i j, i < 60 → j < 60 → N.1 171 (60 * i + j) = nI (W.2.2 i j)
def drR (N : mm_M) (inp : Nat) (σ : DR) : Prop := rwD N inp σ.2.1 ∧ N.1 108 100 = nI σ.1 ∧ N.1 108 106 = 0 ∧ ∀ w, w < inp → N.1 172 w = nI (σ.2.2.1 w) ∧ N.1 173 w = nI (kb σ.2.2.2 w)
def drF (N N' : mm_M) : Prop := (∀ k, k ≠ 108 → (k < 169 ∨ 173 < k) → N'.1 k = N.1 k) ∧ (∀ j, j ≠ 100 → N'.1 108 j = N.1 108 j) ∧ N'.2 = N.2
theorem drF_r (N : mm_M) : drF N N := ⟨fun _ _ _ => rfl, fun _ _ => rfl, rfl⟩
theorem drF_t {M N K : mm_M} (h : drF M N) (h' : drF N K) : drF M K := ⟨fun k a b => (h'.1 k a b).trans (h.1 k a b), fun j a => (h'.2.1 j a).trans (h.2.1 j a), h'.2.2.trans h.2.2⟩
def apR (N : mm_M) (m p : Nat) : mm_M := mm_i (mm_i N 169 (upd (N.1 169) m 1)) 170 (upd (N.1 170) m (nI p))
section DRS
variable {d inp : Nat} {N : mm_M} {σ : DR} {W : WB}
theorem rwD_ad {m p : Nat} (h : rwD N inp W) : rwD (apR N m p) inp (adW W m p) := by
  obtain ⟨h1, h2, h3, h4⟩ := h
  refine ⟨h1, fun i hi => ?_, fun i hi => ?_, h4⟩
  · show upd (N.1 169) m 1 i = if (if i = m then true else W.1 i) = true then 1 else 0
    unfold upd
    by_cases e : i = m
    · rw [if_pos e, if_pos e, if_pos rfl]
    · rw [if_neg e, if_neg e]
      exact h2 i hi
  · have hi : (if i = m then true else W.1 i) = true := hi
    show upd (N.1 170) m (nI p) i = nI (if i = m then p else W.2.1 i)
    unfold upd
    by_cases e : i = m
    · rw [if_pos e, if_pos e]
    · rw [if_neg e] at hi
      rw [if_neg e, if_neg e]
      exact h3 i hi
theorem rwD_se {a b v : Nat} (h : rwD N inp W) (ha : a < 60) (hb : b < 60) : rwD (seR N a b v) inp (W.1, W.2.1, stE W.2.2 a b v) := by
  obtain ⟨h2, h3, h4, h5⟩ := h
  refine ⟨h2, h3, h4, fun i j hi hj => ?_⟩
  show upd (upd (N.1 171) (60 * a + b) (nI v)) (60 * b + a) (nI v) (60 * i + j) = nI (stE W.2.2 a b v i j)
  unfold upd stE
  by_cases e1 : 60 * i + j = 60 * b + a
  · rw [if_pos e1, if_pos (by omega)]
  · rw [if_neg e1]
    by_cases e2 : 60 * i + j = 60 * a + b
    · rw [if_pos e2, if_pos (by omega)]
    · rw [if_neg e2, if_neg (by omega)]
      exact h5 i j hi hj
theorem drF_i {k : Nat} {f : Nat → Int32} (h1 : 169 ≤ k) (h2 : k ≤ 173) : drF N (mm_i N k f) := by
  refine ⟨fun j a b => if_neg (by omega), fun j a => ?_, rfl⟩
  show (if 108 = k then f else N.1 108) j = N.1 108 j
  rw [if_neg (by omega)]
theorem drF_se {a b v : Nat} : drF N (seR N a b v) := drF_i (by decide) (by decide)
theorem drF_ap {m p : Nat} : drF N (apR N m p) := drF_t (drF_i (by decide) (by decide)) (drF_i (by decide) (by decide))
theorem drF_100 {v : Int32} : drF N (mm_i N 108 (upd (N.1 108) 100 v)) := ⟨fun k a _ => if_neg a, fun j a => if_neg a, rfl⟩
set_option maxRecDepth 100000 in
theorem ct_twR {w : Nat} (h : drR N inp σ) (hi : drI inp σ) (hw : w < inp) : am_M (d + 1) false nm_X12_twist [aR 108, aI (nI w)] N (fun r N' => r = .inl none ∧ drF N N' ∧ drR N' inp (tws σ w)) := by
  have i4 := hi.1.2.2.1
  have k16 := hi.2.2.2.2.2
  obtain ⟨hc, h100, h106, hl⟩ := h
  have hW : vp_in (nI w) 4 := vp_in_nI (by omega) (by decide)
  have key : ∀ v, nI v = nI (1 - kb σ.2.2.2 w) → drF N (mm_i N 173 (upd (N.1 173) w (nI v))) ∧ drR (mm_i N 173 (upd (N.1 173) w (nI v))) inp (tws σ w) := fun v hv => by
    refine ⟨drF_i (by decide) (by decide), hc, h100, h106, fun x hx => ⟨(hl x hx).1, ?_⟩⟩
    show upd (N.1 173) w (nI v) x = nI (kb (σ.2.2.2 ^^^ 2 ^ w) x)
    rw [kx_b k16 (by omega) (by omega)]
    unfold upd
    by_cases e : x = w
    · rw [if_pos e, if_pos e, hv]
    · rw [if_neg e, if_neg e]
      exact (hl x hx).2
  refine ⟨rfl, rfl, rfl, fun X hX => am_run hX 8 _ _ _ _ ?_⟩
  conv => whnf
  refine ⟨hW, ?_⟩
  conv => whnf
  rw [nI_clamp (n := w) (by omega), (hl w hw).2]
  rcases (by have := kb_2 (k := σ.2.2.2) (w := w); omega : kb σ.2.2.2 w = 0 ∨ kb σ.2.2.2 w = 1) with e | e
  · rw [e]
    refine ⟨fun c => absurd rfl c, fun _ => ?_⟩
    refine am_run hX 4 _ _ _ _ ?_
    conv => whnf
    refine ⟨hW, ?_⟩
    conv => whnf
    rw [nI_clamp (n := w) (by omega), bool1]
    exact ⟨trivial, rfl, key 1 (by rw [e])⟩
  · rw [e]
    refine ⟨fun _ => ?_, fun c => absurd (by decide) c⟩
    refine am_run hX 3 _ _ _ _ ?_
    conv => whnf
    refine ⟨hW, ?_⟩
    conv => whnf
    rw [nI_clamp (n := w) (by omega), bool0]
    exact ⟨trivial, rfl, key 0 (by rw [e])⟩
theorem n106 (h : N.1 108 106 = 0) : mm_i N 108 (upd (N.1 108) 106 0) = N := by
  rw [← h, upd_self, mm_iz]
set_option maxRecDepth 100000 in
theorem ct_puR {w p : Nat} (h : drR N inp σ) (hi : drI inp σ) (hm : σ.1 < 60) (hw : w < inp) : am_M (d + 2) false nm_X12_putPhase [aR 108, aI (nI w), aI (nI p)] N (fun r N' => r = .inl none ∧ drF N N' ∧ drR N' inp (pu σ w p)) := by
  have i4 := hi.1.2.2.1
  have lw := dr_l hi hw
  have k16 := hi.2.2.2.2.2
  obtain ⟨hc, h100, h106, hl⟩ := h
  have hW : vp_in (nI w) 4 := vp_in_nI (by omega) (by decide)
  have hM : vp_in (nI σ.1) 60 := vp_in_nI hm (by decide)
  refine ⟨rfl, rfl, rfl, fun X hX => am_run hX 4 _ _ _ _ ?_⟩
  conv => whnf
  rw [h106]
  refine ⟨fun c => absurd rfl c, fun _ => ?_⟩
  refine am_run hX 4 _ _ _ _ ?_
  conv => whnf
  rw [h100]
  refine ⟨fun _ => ?_, fun c => absurd (fun z => by have := (nI_eq (b := 60) (by omega) (by decide)).mp z; omega) c⟩
  refine am_run hX 2 _ _ _ _ ?_
  conv => whnf
  refine ⟨⟨rfl, rfl⟩, ?_⟩
  conv => whnf
  rw [n106 h106]
  refine am_run hX 3 _ _ _ _ ?_
  conv => whnf
  rw [h106]
  refine ⟨fun _ => ?_, fun c => absurd rfl c⟩
  have fin : ∀ v, v = kb σ.2.2.2 w + 1 → X 78 [some (aR 108), some (aI (nI w)), some (aI (nI p))] [aI (nI v), aI (nI (σ.2.2.1 w)), aI (nI σ.1), aR 108] (apR N σ.1 p) := fun v hv => by
    refine am_run hX 1 _ _ _ _ ?_
    conv => whnf
    refine am_c0 (ct_seR0 (d := d) (a := σ.1) (b := σ.2.2.1 w) (v := v) hm (by omega)) ?_
    conv => whnf
    refine am_run hX 6 _ _ _ _ ?_
    conv => whnf
    refine ⟨hW, ?_⟩
    conv => whnf
    rw [nI_clamp (n := w) (by omega), show (seR (apR N σ.1 p) σ.1 (σ.2.2.1 w) v).1 108 100 = nI σ.1 from h100]
    refine am_run hX 5 _ _ _ _ ?_
    conv => whnf
    refine ⟨hW, ?_⟩
    conv => whnf
    rw [nI_clamp (n := w) (by omega), bool0]
    refine am_run hX 7 _ _ _ _ ?_
    conv => whnf
    have hD := rwD_se (v := v) (rwD_ad (m := σ.1) (p := p) hc) hm (show σ.2.2.1 w < 60 by omega)
    have f0 : drF N (seR (apR N σ.1 p) σ.1 (σ.2.2.1 w) v) := drF_t drF_ap drF_se
    have e172 : (seR (apR N σ.1 p) σ.1 (σ.2.2.1 w) v).1 172 = N.1 172 := rfl
    have e173 : (seR (apR N σ.1 p) σ.1 (σ.2.2.1 w) v).1 173 = N.1 173 := rfl
    have e100 : (seR (apR N σ.1 p) σ.1 (σ.2.2.1 w) v).1 108 = N.1 108 := rfl
    generalize seR (apR N σ.1 p) σ.1 (σ.2.2.1 w) v = K at *
    rw [show (mm_i (mm_i K 172 (upd (K.1 172) w (nI σ.1))) 173 (upd ((mm_i K 172 (upd (K.1 172) w (nI σ.1))).1 173) w 0)).1 108 100 = nI σ.1 from (by show K.1 108 100 = _; rw [e100]; exact h100), nI_1]
    refine ⟨trivial, rfl, drF_t f0 (drF_t (drF_i (by decide) (by decide)) (drF_t (drF_i (by decide) (by decide)) drF_100)), ?_, rfl, ?_, fun x hx => ⟨?_, ?_⟩⟩
    · subst hv
      exact hD
    · show K.1 108 106 = 0
      rw [e100]
      exact h106
    · show upd (K.1 172) w (nI σ.1) x = nI (if x = w then σ.1 else σ.2.2.1 x)
      unfold upd
      by_cases e : x = w
      · rw [if_pos e, if_pos e]
      · rw [if_neg e, if_neg e, e172]
        exact (hl x hx).1
    · show upd (K.1 173) w 0 x = nI (kb (kc σ.2.2.2 w) x)
      rw [kc_b k16 (by omega) (by omega)]
      unfold upd
      by_cases e : x = w
      · rw [if_pos e, if_pos e]
        rfl
      · rw [if_neg e, if_neg e, e173]
        exact (hl x hx).2
  refine am_run hX 6 _ _ _ _ ?_
  conv => whnf
  rw [h100]
  refine ⟨hM, ?_⟩
  conv => whnf
  rw [nI_clamp (n := σ.1) (by omega), bool1]
  refine am_run hX 6 _ _ _ _ ?_
  conv => whnf
  rw [show (mm_i N 169 (upd (N.1 169) σ.1 1)).1 108 100 = nI σ.1 from h100]
  refine ⟨hM, ?_⟩
  conv => whnf
  rw [nI_clamp (n := σ.1) (by omega)]
  have toK : ∀ q L s, X q L s (apR N σ.1 p) → X q L s (mm_i (mm_i N 169 (upd (N.1 169) σ.1 1)) 170 (upd ((mm_i N 169 (upd (N.1 169) σ.1 1)).1 170) σ.1 (nI p))) := fun _ _ _ q => q
  apply toK
  refine am_run hX 7 _ _ _ _ ?_
  conv => whnf
  refine ⟨hW, ?_⟩
  conv => whnf
  rw [nI_clamp (n := w) (by omega), show (apR N σ.1 p).1 108 100 = nI σ.1 from h100, show (apR N σ.1 p).1 172 w = nI (σ.2.2.1 w) from (hl w hw).1]
  refine am_run hX 5 _ _ _ _ ?_
  conv => whnf
  refine ⟨hW, ?_⟩
  conv => whnf
  rw [nI_clamp (n := w) (by omega), show (apR N σ.1 p).1 173 w = nI (kb σ.2.2.2 w) from (hl w hw).2]
  rcases (by have := kb_2 (k := σ.2.2.2) (w := w); omega : kb σ.2.2.2 w = 0 ∨ kb σ.2.2.2 w = 1) with e | e
  · rw [e]
    refine ⟨fun _ => ?_, fun c => absurd rfl c⟩
    refine am_run hX 1 _ _ _ _ ?_
    conv => whnf
    exact fin 1 (by rw [e])
  · rw [e]
    refine ⟨fun c => absurd c (by decide), fun _ => ?_⟩
    refine am_run hX 2 _ _ _ _ ?_
    conv => whnf
    exact fin 2 (by rw [e])
set_option maxRecDepth 100000 in
theorem ct_ek0 {i j : Nat} (h : N.1 171 (60 * i + j) = 0) (hi : i < 60) (hj : j < 60) : am_M (d + 1) false nm_X12_edgeOf [aR 108, aI (nI i), aI (nI j)] N (am_q1 (aI 0) N) := by
  refine ⟨rfl, rfl, rfl, fun X hX => am_run hX 20 _ _ _ _ ?_⟩
  conv => whnf
  rw [at60]
  refine ⟨vp_in_nI (by show 60 * i + j < 3600; omega) (by decide), ?_⟩
  conv => whnf
  rw [nI_clamp (n := 60 * i + j) (by omega), h]
  exact ⟨trivial, rfl, rfl⟩
set_option maxRecDepth 100000 in
theorem ct_jn0 {a b v : Nat} (h : N.1 171 (60 * a + b) = 0) (ha : a < 60) (hb : b < 60) : am_M (d + 2) false nm_X12_join [aR 108, aI (nI a), aI (nI b), aI (nI v)] N (am_q0 (seR N a b v)) := by
  have k := ct_ek0 (d := d) (i := a) (j := b) h ha hb
  refine ⟨rfl, rfl, rfl, fun X hX => am_run hX 7 _ _ _ _ ?_⟩
  conv => whnf
  refine am_c1 k ?_
  conv => whnf
  refine ⟨fun c => absurd rfl c, fun _ => ?_⟩
  refine am_run hX 7 _ _ _ _ ?_
  conv => whnf
  refine am_c0 (ct_seR0 (d := d) (a := a) (b := b) (v := v) ha hb) ?_
  conv => whnf
  exact ⟨trivial, rfl, rfl⟩
set_option maxRecDepth 100000 in
theorem ct_dxR {w : Nat} (h : drR N inp σ) (hi : drI inp σ) (hm : σ.1 < 60) (hw : w < inp) : am_M (d + 3) false nm_X12_drawX [aR 108, aI (nI w)] N (fun r N' => r = .inl none ∧ drF N N' ∧ drR N' inp (tws (pu (tws σ w) w 4) w)) := by
  refine ⟨rfl, rfl, rfl, fun X hX => am_run hX 3 _ _ _ _ ?_⟩
  conv => whnf
  refine am_cq (ct_twR (d := d + 1) h hi hw) ?_
  rintro r N1 ⟨rfl, f1, h1⟩
  refine ⟨_, rfl, ?_⟩
  conv => whnf
  refine am_run hX 4 _ _ _ _ ?_
  conv => whnf
  refine am_cq (ct_puR (d := d) (p := 4) h1 (dr_tw hi hw) hm hw) ?_
  rintro r N2 ⟨rfl, f2, h2⟩
  refine ⟨_, rfl, ?_⟩
  conv => whnf
  refine am_run hX 3 _ _ _ _ ?_
  conv => whnf
  refine am_cq (ct_twR (d := d + 1) h2 (dr_pu (dr_tw hi hw) hm hw (by decide)) hw) ?_
  rintro r N3 ⟨rfl, f3, h3⟩
  refine ⟨_, rfl, ?_⟩
  conv => whnf
  refine am_run hX 1 _ _ _ _ ?_
  conv => whnf
  exact ⟨trivial, rfl, drF_t f1 (drF_t f2 f3), h3⟩
set_option maxRecDepth 100000 in
theorem ct_coR {c t : Nat} (h : drR N inp σ) (hi : drI inp σ) (hm : σ.1 + 1 < 60) (hc : c < inp) (ht : t < inp) (hct : c ≠ t) : am_M (d + 3) false nm_X12_controlled [aR 108, aI (nI c), aI (nI t)] N (fun r N' => r = .inl none ∧ drF N N' ∧ drR N' inp (ctl2 σ c t)) := by
  have i4 := hi.1.2.2.1
  have hi1 := dr_pu (p := 0) hi (by omega) hc (by decide)
  have hi2 := dr_pu (p := 0) hi1 (by show σ.1 + 1 < 60; omega) ht (by decide)
  obtain ⟨e1, e2, e3⟩ := pu2_0 hi hc ht hct
  refine ⟨rfl, rfl, rfl, fun X hX => am_run hX 4 _ _ _ _ ?_⟩
  conv => whnf
  refine am_cq (ct_puR (d := d) (p := 0) h hi (by omega) hc) ?_
  rintro r N1 ⟨rfl, f1, h1⟩
  refine ⟨_, rfl, ?_⟩
  conv => whnf
  refine am_run hX 4 _ _ _ _ ?_
  conv => whnf
  refine am_cq (ct_puR (d := d) (p := 0) h1 hi1 (by show σ.1 + 1 < 60; omega) ht) ?_
  rintro r N2 ⟨rfl, f2, h2⟩
  refine ⟨_, rfl, ?_⟩
  conv => whnf
  refine am_run hX 3 _ _ _ _ ?_
  conv => whnf
  rw [h2.2.2.1]
  refine ⟨fun c => absurd rfl c, fun _ => ?_⟩
  refine am_run hX 11 _ _ _ _ ?_
  conv => whnf
  refine ⟨vp_in_nI (by show c < 4; omega) (by decide), ?_⟩
  conv => whnf
  refine ⟨vp_in_nI (by show t < 4; omega) (by decide), ?_⟩
  conv => whnf
  rw [nI_clamp (n := c) (by omega), nI_clamp (n := t) (by omega), (h2.2.2.2 c hc).1, (h2.2.2.2 t ht).1]
  rw [e1, e2]
  refine am_c0 (ct_jn0 (d := d) (a := σ.1) (b := σ.1 + 1) (v := 2) ?_ (by omega) (by omega)) ?_
  · rw [h2.1.2.2.2 _ _ (by omega) (by omega), e3]
    rfl
  conv => whnf
  refine am_run hX 1 _ _ _ _ ?_
  conv => whnf
  refine ⟨trivial, rfl, drF_t f1 (drF_t f2 drF_se), ?_, h2.2.1, h2.2.2.1, h2.2.2.2⟩
  have := rwD_se (a := σ.1) (b := σ.1 + 1) (v := 2) h2.1 (by omega) (by omega)
  show rwD _ inp ((pu (pu σ c 0) t 0).2.1.1, (pu (pu σ c 0) t 0).2.1.2.1, stE (pu (pu σ c 0) t 0).2.1.2.2 ((pu (pu σ c 0) t 0).2.2.1 c) ((pu (pu σ c 0) t 0).2.2.1 t) 2)
  rw [e1, e2]
  exact this
end DRS
