/-! DIAGRAMS: drawing one, the class -/
def drC (N : mm_M) (inp : Nat) (σ : DR) : Prop := cwR N σ.1 inp σ.2.1 ∧ (∀ w, w < inp → N.1 43 w = nI (σ.2.2.1 w)) ∧ N.1 39 8 = nI σ.2.2.2
def dcF (N N' : mm_M) : Prop := (∀ k, k ≠ 39 → k ≠ 42 → k ≠ 43 → N'.1 k = N.1 k) ∧ (∀ k, k ≠ 39 → k ≠ 40 → k ≠ 41 → N'.2 k = N.2 k) ∧ (∀ j, j ≠ 6 → j ≠ 8 → N'.1 39 j = N.1 39 j) ∧ ∀ j, j ≠ 10 → N'.2 39 j = N.2 39 j
theorem dcF_r (N : mm_M) : dcF N N := ⟨fun _ _ _ _ => rfl, fun _ _ _ _ => rfl, fun _ _ _ => rfl, fun _ _ => rfl⟩
theorem dcF_t {M N K : mm_M} (h : dcF M N) (h' : dcF N K) : dcF M K := ⟨fun k a b c => (h'.1 k a b c).trans (h.1 k a b c), fun k a b c => (h'.2.1 k a b c).trans (h.2.1 k a b c), fun j a b => (h'.2.2.1 j a b).trans (h.2.2.1 j a b), fun j a => (h'.2.2.2 j a).trans (h.2.2.2 j a)⟩
theorem dcF_K {N N' : mm_M} (h : cwK N N') : dcF N N' := ⟨fun k a b _ => h.1.1 k a b, h.1.2.1, fun j _ _ => by rw [h.2], h.1.2.2.2⟩
def adM (N : mm_M) (m : Nat) (p : Int32) : mm_M := mm_i (mm_l (mm_i (mm_l (mm_l N 40 (vp_updL (N.2 40) m 0)) 41 (vp_updL (N.2 41) m 0)) 42 (upd (N.1 42) m p)) 39 (vp_updL (N.2 39) 10 (N.2 39 10 ||| shb m))) 39 (upd (N.1 39) 6 (nI (m + 1)))
section DRC
variable {d inp : Nat} {N : mm_M} {σ : DR}
set_option maxRecDepth 100000 in
theorem ct_adS {m : Nat} {p : Int32} (h : N.1 39 6 = nI m) (hm : m < 60) : am_M (d + 1) false nm_X10_addSpider [aR 39, aI p] N (am_q1 (aI (nI m)) (adM N m p)) := by
  have hI : vp_in (nI m) 60 := vp_in_nI hm (by decide)
  refine ⟨rfl, rfl, rfl, fun X hX => am_run hX 40 _ _ _ _ ?_⟩
  conv => whnf
  rw [h, show (59 : Int32) = nI 59 from rfl, nI_min (by omega) (by decide), show min m 59 = m by omega]
  refine ⟨hI, ?_⟩
  conv => whnf
  refine ⟨hI, ?_⟩
  conv => whnf
  refine ⟨hI, ?_⟩
  conv => whnf
  rw [nI_clamp (n := m) (by omega), nI_1]
  exact ⟨trivial, rfl, rfl⟩
theorem dcF_ad {m : Nat} {p : Int32} : dcF N (adM N m p) := by
  refine ⟨fun k a b c => ?_, fun k a b c => ?_, fun j a b => ?_, fun j a => ?_⟩
  · simp [adM, mm_i, mm_l, a, b]
  · simp [adM, mm_i, mm_l, a, b, c]
  · show upd (N.1 39) 6 (nI (m + 1)) j = N.1 39 j
    exact if_neg a
  · show vp_updL (N.2 39) 10 _ j = N.2 39 j
    exact if_neg a
theorem cwR_ad {m p : Nat} {V : WB} (h : cwR N m inp V) (hm : m < 60) (hz : ∀ x, V.2.2 m x = 0) : cwR (adM N m (nI p)) (m + 1) inp (adW V m p) := by
  obtain ⟨h1, h2, h3, h4, h5⟩ := h
  refine ⟨rfl, h2, fun i hi => ?_, fun i hi => ?_, fun i hi j hj => ?_⟩
  · show (N.2 39 10 ||| shb m).toBitVec.getLsbD i = if i = m then true else V.1 i
    rw [Int64.toBitVec_or, BitVec.getLsbD_or, h3 i hi, shb_b (by omega) hi]
    by_cases e : i = m
    · rw [if_pos e, decide_eq_true e, Bool.or_true]
    · rw [if_neg e, decide_eq_false e, Bool.or_false]
  · have hi : (if i = m then true else V.1 i) = true := hi
    show upd (N.1 42) m (nI p) i = nI (if i = m then p else V.2.1 i)
    unfold upd
    by_cases e : i = m
    · rw [if_pos e, if_pos e]
    · rw [if_neg e] at hi
      rw [if_neg e, if_neg e]
      exact h4 i hi
  · show (vp_updL (N.2 40) m 0 i).toBitVec.getLsbD j = decide (V.2.2 i j = 1) ∧ (vp_updL (N.2 41) m 0 i).toBitVec.getLsbD j = decide (V.2.2 i j = 2)
    unfold vp_updL
    by_cases e : i = m
    · rw [if_pos e, if_pos e, bit_0, e, hz j]
      exact ⟨rfl, rfl⟩
    · rw [if_neg e, if_neg e]
      exact h5 i (by omega) j hj
theorem kb_i {k w : Nat} (hk : k < 16) (hw : w < 4) : nI k >>> (nI w &&& 31) &&& 1 = nI (kb k w) := by
  rw [nI_sh (by omega) w (by omega), nI_m1]
  rfl
theorem kx_i {k w : Nat} (hk : k < 16) (hw : w < 4) : nI k ^^^ ((1 : Int32) <<< (nI w &&& 31)) = nI (k ^^^ 2 ^ w) := by
  have : ∀ k, k < 16 → ∀ w, w < 4 → nI k ^^^ ((1 : Int32) <<< (nI w &&& 31)) = nI (k ^^^ 2 ^ w) := by decide +kernel
  exact this k hk w hw
theorem kc_i {k w : Nat} (hk : k < 16) (hw : w < 4) : nI k &&& (((1 : Int32) <<< (nI w &&& 31)) ^^^ -1) = nI (kc k w) := by
  have : ∀ k, k < 16 → ∀ w, w < 4 → nI k &&& (((1 : Int32) <<< (nI w &&& 31)) ^^^ -1) = nI (kc k w) := by decide +kernel
  exact this k hk w hw
theorem ks_i {k a b : Nat} (hk : k < 16) (ha : a < 4) (hb : b < 4) : nI k ^^^ (((nI k >>> (nI a &&& 31) ^^^ nI k >>> (nI b &&& 31)) &&& 1) <<< (nI a &&& 31) ||| ((nI k >>> (nI a &&& 31) ^^^ nI k >>> (nI b &&& 31)) &&& 1) <<< (nI b &&& 31)) = nI (ks k a b) := by
  have : ∀ k, k < 16 → ∀ a, a < 4 → ∀ b, b < 4 → nI k ^^^ (((nI k >>> (nI a &&& 31) ^^^ nI k >>> (nI b &&& 31)) &&& 1) <<< (nI a &&& 31) ||| ((nI k >>> (nI a &&& 31) ^^^ nI k >>> (nI b &&& 31)) &&& 1) <<< (nI b &&& 31)) = nI (ks k a b) := by decide +kernel
  exact this k hk a ha b hb
set_option maxRecDepth 100000 in
theorem ct_puC {w p : Nat} (h : drC N inp σ) (hi : drI inp σ) (hm : σ.1 < 60) (hw : w < inp) (hp : p < 8) : am_M (d + 3) false nm_X10_putPhase [aR 39, aI (nI w), aI (nI p)] N (fun r N' => r = .inl none ∧ dcF N N' ∧ drC N' inp (pu σ w p)) := by
  have i4 := hi.1.2.2.1
  have z := dr_z hi
  have lw := dr_l hi hw
  have k16 := hi.2.2.2.2.2
  have tl := (hi.2.2.1 w hw).1
  obtain ⟨hc, hl, ht⟩ := h
  have hW : vp_in (nI w) 4 := vp_in_nI (by omega) (by decide)
  have g1 := gd_ad (p := p) hi.1 hm hp
  have hc1 := cwR_ad (p := p) hc hm z
  refine ⟨rfl, rfl, rfl, fun X hX => am_run hX 3 _ _ _ _ ?_⟩
  conv => whnf
  refine am_c1 (ct_adS (d := d + 1) hc.1 hm) ?_
  conv => whnf
  refine am_run hX 14 _ _ _ _ ?_
  conv => whnf
  refine ⟨hW, ?_⟩
  conv => whnf
  rw [nI_clamp (n := w) (by omega), show (adM N σ.1 (nI p)).1 43 w = nI (σ.2.2.1 w) from hl w hw, show (adM N σ.1 (nI p)).1 39 8 = nI σ.2.2.2 from ht, kb_i k16 (by omega)]
  have jn := ct_jnC (d := d) (a := σ.1) (b := σ.2.2.1 w) (t := kb σ.2.2.2 w) hc1 g1.1 (by show σ.2.1.2.2 _ _ ≤ 2; rw [z]; decide) (hi.1.2.2.2.2.2.2.1 _ _) (by omega) (by omega) (by omega) kb_2
  rw [jn_0 (show (adW σ.2.1 σ.1 p).2.2 σ.1 (σ.2.2.1 w) = 0 from z _)] at jn
  have fin : X 30 [some (aR 39), some (aI (nI w)), some (aI (nI p)), some (aI (nI σ.1))] [aI (nI (kb σ.2.2.2 w)), aI (nI (σ.2.2.1 w)), aI (nI σ.1), aR 39] (adM N σ.1 (nI p)) := by
    refine am_run hX 1 _ _ _ _ ?_
    conv => whnf
    refine am_cq jn ?_
    rintro r N' ⟨rfl, f1, hc'⟩
    refine ⟨_, rfl, ?_⟩
    conv => whnf
    have e43 : N'.1 43 = (adM N σ.1 (nI p)).1 43 := f1.1.1 43 (by decide) (by decide)
    have e8 : N'.1 39 8 = nI σ.2.2.2 := by
      rw [f1.2]
      exact ht
    refine am_run hX 16 _ _ _ _ ?_
    conv => whnf
    refine ⟨hW, ?_⟩
    conv => whnf
    rw [nI_clamp (n := w) (by omega)]
    rw [show (mm_i N' 43 (upd (N'.1 43) w (nI σ.1))).1 39 8 = nI σ.2.2.2 from e8, kc_i k16 (by omega)]
    refine ⟨trivial, rfl, dcF_t dcF_ad (dcF_t (dcF_K f1) ?_), ?_, fun v hv => ?_, rfl⟩
    · refine ⟨fun k a b c => ?_, fun _ _ _ _ => rfl, fun j a b => ?_, fun _ _ => rfl⟩
      · simp [mm_i, a, c]
      · show upd (N'.1 39) 8 _ j = N'.1 39 j
        exact if_neg b
    · exact hc'
    · show upd (N'.1 43) w (nI σ.1) v = nI (if v = w then σ.1 else σ.2.2.1 v)
      unfold upd
      by_cases e : v = w
      · rw [if_pos e, if_pos e]
      · rw [if_neg e, if_neg e, e43]
        exact hl v hv
  rcases (by have := kb_2 (k := σ.2.2.2) (w := w); omega : kb σ.2.2.2 w = 0 ∨ kb σ.2.2.2 w = 1) with e | e
  · rw [e] at fin ⊢
    refine ⟨fun _ => ?_, fun c => absurd rfl c⟩
    refine am_run hX 1 _ _ _ _ ?_
    conv => whnf
    exact fin
  · rw [e] at fin ⊢
    refine ⟨fun c => absurd c (by decide), fun _ => ?_⟩
    refine am_run hX 2 _ _ _ _ ?_
    conv => whnf
    exact fin
set_option maxRecDepth 100000 in
theorem ct_exD {a b : Nat} (h : drC N inp σ) (hi : drI inp σ) (ha : a < inp) (hb : b < inp) : am_M (d + 1) false nm_X10_drawExchange [aR 39, aI (nI a), aI (nI b)] N (fun r N' => r = .inl none ∧ dcF N N' ∧ drC N' inp (swD σ a b)) := by
  have i4 := hi.1.2.2.1
  have k16 := hi.2.2.2.2.2
  obtain ⟨hc, hl, ht⟩ := h
  have hA : vp_in (nI a) 4 := vp_in_nI (by omega) (by decide)
  have hB : vp_in (nI b) 4 := vp_in_nI (by omega) (by decide)
  refine ⟨rfl, rfl, rfl, fun X hX => am_run hX 60 _ _ _ _ ?_⟩
  conv => whnf
  refine ⟨hA, ?_⟩
  conv => whnf
  refine ⟨hB, ?_⟩
  conv => whnf
  refine ⟨hA, ?_⟩
  conv => whnf
  refine ⟨hB, ?_⟩
  conv => whnf
  rw [nI_clamp (n := a) (by omega), nI_clamp (n := b) (by omega), mi_two]
  rw [show ∀ f, (mm_i N 43 f).1 39 8 = nI σ.2.2.2 from fun f => ht, ks_i k16 (by omega) (by omega)]
  refine ⟨trivial, rfl, ?_, hc, fun v hv => ?_, rfl⟩
  · refine ⟨fun k a b c => ?_, fun _ _ _ _ => rfl, fun j a b => ?_, fun _ _ => rfl⟩
    · simp [mm_i, a, c]
    · show upd (N.1 39) 8 _ j = N.1 39 j
      exact if_neg b
  · show upd (upd (N.1 43) a (N.1 43 b)) b (N.1 43 a) v = nI (if v = b then σ.2.2.1 a else if v = a then σ.2.2.1 b else σ.2.2.1 v)
    unfold upd
    by_cases e : v = b
    · rw [if_pos e, if_pos e]
      exact hl a ha
    · rw [if_neg e, if_neg e]
      by_cases e2 : v = a
      · rw [if_pos e2, if_pos e2]
        exact hl b hb
      · rw [if_neg e2, if_neg e2]
        exact hl v hv
/-- a WIRE is turned: what the class writes -/
def twM (N : mm_M) (v : Int32) : mm_M := mm_i N 39 (upd (N.1 39) 8 v)
theorem dcF_tw {v : Int32} : dcF N (twM N v) := by
  refine ⟨fun k a b c => ?_, fun _ _ _ _ => rfl, fun j a b => ?_, fun _ _ => rfl⟩
  · exact if_neg a
  · show upd (N.1 39) 8 _ j = N.1 39 j
    exact if_neg b
theorem drC_tw {w : Nat} (h : drC N inp σ) (k16 : σ.2.2.2 < 16) (hw : w < 4) : drC (twM N (N.1 39 8 ^^^ ((1 : Int32) <<< (nI w &&& 31)))) inp (tws σ w) := by
  obtain ⟨hc, hl, ht⟩ := h
  refine ⟨hc, hl, ?_⟩
  show N.1 39 8 ^^^ ((1 : Int32) <<< (nI w &&& 31)) = nI (σ.2.2.2 ^^^ 2 ^ w)
  rw [ht, kx_i k16 hw]
end DRC
