/-! DIAGRAMS: all ways of a MEANING: the sum; the class -/
/-- the ways' sum, by places -/
noncomputable def wsm (ok : Nat → Prop) (eg : Nat → Nat) : Nat → Nat → Int
  | 0, _ => 0
  | w + 1, p => wsm ok eg w p + @ite Int (ok w) (Classical.propDecidable _) (if eg w % 4 = p then (if eg w % 8 < 4 then 1 else -1) else 0) 0
theorem wsm_t {ok : Nat → Prop} {eg : Nat → Nat} {w p : Nat} (h : ok w) : wsm ok eg (w + 1) p = wsm ok eg w p + (if eg w % 4 = p then (if eg w % 8 < 4 then 1 else -1) else 0) := by
  show wsm ok eg w p + @ite Int (ok w) (Classical.propDecidable _) _ 0 = _
  rw [@if_pos (ok w) (Classical.propDecidable _) h]
theorem wsm_f {ok : Nat → Prop} {eg : Nat → Nat} {w p : Nat} (h : ¬ ok w) : wsm ok eg (w + 1) p = wsm ok eg w p := by
  show wsm ok eg w p + @ite Int (ok w) (Classical.propDecidable _) _ 0 = _
  rw [@if_neg (ok w) (Classical.propDecidable _) h, Int.add_zero]
theorem wsm_b {ok : Nat → Prop} {eg : Nat → Nat} {p : Nat} : ∀ w : Nat, -(w : Int) ≤ wsm ok eg w p ∧ wsm ok eg w p ≤ w
  | 0 => ⟨Int.le_refl _, Int.le_refl _⟩
  | w + 1 => by
    have ih := wsm_b (ok := ok) (eg := eg) (p := p) w
    by_cases h : ok w
    · rw [wsm_t h]
      by_cases h1 : eg w % 4 = p
      · rw [if_pos h1]
        by_cases h2 : eg w % 8 < 4
        · rw [if_pos h2]; omega
        · rw [if_neg h2]; omega
      · rw [if_neg h1]; omega
    · rw [wsm_f h]; omega
theorem wsm_c {ok ok' : Nat → Prop} {eg eg' : Nat → Nat} {p : Nat} : ∀ n, (∀ w, w < n → (ok w ↔ ok' w) ∧ eg w = eg' w) → wsm ok eg n p = wsm ok' eg' n p
  | 0, _ => rfl
  | n + 1, h => by
    have ih := wsm_c (p := p) n fun w hw => h w (by omega)
    obtain ⟨h1, h2⟩ := h n (by omega)
    by_cases c : ok n
    · rw [wsm_t c, wsm_t (h1.mp c), ih, h2]
    · rw [wsm_f c, wsm_f fun z => c (h1.mpr z), ih]
theorem aw_row {N : mm_M} {c e : Nat} {s : Nat → Int} (h : ∀ p, p < 4 → N.2 c p = lI (s p)) : ∀ p, p < 4 → (awM N c e).2 c p = lI (s p + (if e % 4 = p then (if e % 8 < 4 then 1 else -1) else 0)) := fun p hp => by
  unfold awM
  rw [mm_l2]
  unfold vp_updL
  by_cases q : e % 4 = p
  · rw [if_pos q.symm, if_pos q, q, h p hp]
    by_cases q2 : e % 8 < 4
    · rw [if_pos q2, if_pos q2, show (1 : Int64) = lI 1 from by decide, lI_add]
    · rw [if_neg q2, if_neg q2, show (-1 : Int64) = lI (-1) from by decide, lI_add]
  · rw [if_neg fun z => q z.symm, if_neg q, h p hp, Int.add_zero]
/-- how many inner ones below i, and which -/
def icn (inp : Nat) (W : WB) (i : Nat) : Nat := sm (fun j => if 2 * inp ≤ j ∧ W.1 j = true then 1 else 0) i
def ick (inp : Nat) (W : WB) : Nat → Nat → Nat
  | 0 => fun _ => 0
  | i + 1 => if 2 * inp ≤ i ∧ W.1 i = true then fun t => if t = icn inp W i then i else ick inp W i t else ick inp W i
section MEAN
variable {d m inp : Nat} {N : mm_M} {W : WB}
theorem icn_0 : ∀ k, k ≤ 2 * inp → icn inp W k = 0
  | 0, _ => rfl
  | k + 1, h => by
    show icn inp W k + (if 2 * inp ≤ k ∧ W.1 k = true then 1 else 0) = 0
    rw [icn_0 k (by omega), if_neg (by omega)]
theorem inL_x : ∀ k, inL inp W (ick inp W (2 * inp + k)) (icn inp W (2 * inp + k)) (2 * inp + k)
  | 0 => by
    rw [Nat.add_zero, icn_0 _ (Nat.le_refl _)]
    exact inL_0
  | k + 1 => by
    have ih := inL_x k
    have e1 : icn inp W (2 * inp + (k + 1)) = icn inp W (2 * inp + k) + (if 2 * inp ≤ 2 * inp + k ∧ W.1 (2 * inp + k) = true then 1 else 0) := rfl
    have e2 : ick inp W (2 * inp + (k + 1)) = if 2 * inp ≤ 2 * inp + k ∧ W.1 (2 * inp + k) = true then fun t => if t = icn inp W (2 * inp + k) then 2 * inp + k else ick inp W (2 * inp + k) t else ick inp W (2 * inp + k) := rfl
    rw [e1, e2]
    by_cases c : 2 * inp ≤ 2 * inp + k ∧ W.1 (2 * inp + k) = true
    · rw [if_pos c, if_pos c]
      exact inL_s ih c.1 c.2
    · rw [if_neg c, if_neg c]
      exact inL_n ih fun z => c ⟨by omega, z⟩
theorem inL_c (g : gdW m inp W) : inL inp W (ick inp W 60) (icn inp W 60) 60 := by
  have := g.1
  have := g.2.1
  have := inL_x (inp := inp) (W := W) (60 - 2 * inp)
  rw [show 2 * inp + (60 - 2 * inp) = 60 by omega] at this
  exact this
/-- one list alone -/
theorem inL_l {κ κ' : Nat → Nat} {n n' i : Nat} (h : inL inp W κ n i) (h' : inL inp W κ' n' i) : ∀ t, t < n → t < n' ∧ κ t = κ' t := by
  intro t
  induction t using Nat.strongRecOn with
  | ind t ih =>
    intro ht
    obtain ⟨a1, a2, a3⟩ := h.1 t ht
    obtain ⟨t', b1, b2⟩ := h'.2.2.1 (κ t) a2 a3 a1
    have c1 : t ≤ t' := by
      apply Decidable.byContradiction
      intro hc
      have e := (ih t' (by omega) (by omega)).2
      have := h.2.1 t' t (by omega) ht
      omega
    refine ⟨by omega, ?_⟩
    by_cases e : t' = t
    · rw [← b2, e]
    · exfalso
      have l1 := h'.2.1 t t' (by omega) b1
      obtain ⟨d1, d2, d3⟩ := h'.1 t (by omega)
      obtain ⟨s, s1, s2⟩ := h.2.2.1 (κ' t) d2 d3 d1
      have l2 : s < t := by
        apply Decidable.byContradiction
        intro hc
        by_cases e2 : s = t
        · rw [e2] at s2
          omega
        · have := h.2.1 t s (by omega) s1
          omega
      have e3 := (ih s l2 s1).2
      have := h'.2.1 s t l2 (by omega)
      omega
theorem inL_u {κ κ' : Nat → Nat} {n n' i : Nat} (h : inL inp W κ n i) (h' : inL inp W κ' n' i) : n = n' ∧ ∀ t, t < n → κ t = κ' t := by
  refine ⟨?_, fun t ht => (inL_l h h' t ht).2⟩
  rcases Nat.lt_trichotomy n n' with k | k | k
  · have := (inL_l h' h n k).1
    omega
  · exact k
  · have := (inL_l h h' n' k).1
    omega
theorem uv_c {fx : Nat → Bool} {κ κ' : Nat → Nat} {w : Nat} : ∀ n, (∀ t, t < n → κ t = κ' t) → uvW fx κ w n = uvW fx κ' w n
  | 0, _ => rfl
  | n + 1, h => by
    funext x
    show (if x = κ n then decide (w / 2 ^ n % 2 = 1) else uvW fx κ w n x) = if x = κ' n then decide (w / 2 ^ n % 2 = 1) else uvW fx κ' w n x
    rw [uv_c n fun t ht => h t (by omega), h n (by omega)]
/-- INPUTS and OUTPUTS as they are asked for -/
def fxV (inp a b : Nat) (x : Nat) : Bool := decide (x < inp ∧ a / 2 ^ x % 2 = 1) || decide (inp ≤ x ∧ b / 2 ^ (x - inp) % 2 = 1)
theorem fx_lt {a b x : Nat} (hb : b < 2 ^ inp) (h : fxV inp a b x = true) : x < 2 * inp := by
  unfold fxV at h
  rw [Bool.or_eq_true] at h
  rcases h with h | h
  · have := of_decide_eq_true h
    omega
  · have h := of_decide_eq_true h
    apply Decidable.byContradiction
    intro hc
    have : b < 2 ^ (x - inp) := Nat.lt_of_lt_of_le hb (Nat.pow_le_pow_right (by decide) (by omega))
    rw [Nat.div_eq_of_lt this] at h
    omega
theorem fb_1 {a x : Nat} (ha : a < 16) (hx : x < 64) : ((nI a).toInt64).toBitVec.getLsbD x = decide (a / 2 ^ x % 2 = 1) := by
  have : ∀ a, a < 16 → ∀ x, x < 64 → ((nI a).toInt64).toBitVec.getLsbD x = decide (a / 2 ^ x % 2 = 1) := by decide +kernel
  exact this a ha x hx
theorem fb_2 {b i x : Nat} (hb : b < 16) (hi : i < 5) (hx : x < 64) : ((nI b).toInt64 <<< ((nI i).toInt64 &&& 63)).toBitVec.getLsbD x = decide (i ≤ x ∧ b / 2 ^ (x - i) % 2 = 1) := by
  have : ∀ i, i < 5 → ∀ b, b < 16 → ∀ x, x < 64 → ((nI b).toInt64 <<< ((nI i).toInt64 &&& 63)).toBitVec.getLsbD x = decide (i ≤ x ∧ b / 2 ^ (x - i) % 2 = 1) := by decide +kernel
  exact this i hi b hb x hx
theorem p16 {inp a : Nat} (hi : inp ≤ 4) (ha : a < 2 ^ inp) : a < 16 := Nat.lt_of_lt_of_le ha (Nat.pow_le_pow_right (n := 2) (j := 4) (by decide) hi)
theorem fx_b {a b x : Nat} (hi : inp ≤ 4) (ha : a < 2 ^ inp) (hb : b < 2 ^ inp) (hx : x < 64) : ((nI a).toInt64 ||| (nI b).toInt64 <<< ((nI inp).toInt64 &&& 63)).toBitVec.getLsbD x = fxV inp a b x := by
  have a16 := p16 hi ha
  have b16 := p16 hi hb
  rw [Int64.toBitVec_or, BitVec.getLsbD_or, fb_1 a16 hx, fb_2 b16 (by omega) hx]
  unfold fxV
  congr 1
  by_cases c : a / 2 ^ x % 2 = 1
  · have lt : x < inp := by
      apply Decidable.byContradiction
      intro hc
      have : a < 2 ^ x := Nat.lt_of_lt_of_le ha (Nat.pow_le_pow_right (by decide) (by omega))
      rw [Nat.div_eq_of_lt this] at c
      omega
    rw [decide_eq_true c, decide_eq_true ⟨lt, c⟩]
  · rw [decide_eq_false c, decide_eq_false fun z => c z.2]
theorem q_e {a b : Nat} (ha : a < 16) (hb : b < 16) : nI a ||| nI b <<< ((4 : Int32) &&& 31) = nI (a + 16 * b) := by
  have : ∀ a, a < 16 → ∀ b, b < 16 → nI a ||| nI b <<< ((4 : Int32) &&& 31) = nI (a + 16 * b) := by decide +kernel
  exact this a ha b hb
/-- what is summed up, at a place -/
noncomputable def mnV (m inp : Nat) (W : WB) (a b p : Nat) : Int := wsm (fun w => wyC W (uvW (fxV inp a b) (ick inp W 60) w (icn inp W 60)) m) (fun w => egC W (uvW (fxV inp a b) (ick inp W 60) w (icn inp W 60)) m) (2 ^ icn inp W 60) p
/-- what a MEANING may change in the class -/
def cmF (N N' : mm_M) : Prop := (∀ k, k ≠ 39 → k ≠ 44 → N'.1 k = N.1 k) ∧ (∀ j, j ≠ 9 → N'.1 39 j = N.1 39 j) ∧ ∀ k, k ≠ 45 → N'.2 k = N.2 k
theorem cmF_r (N : mm_M) : cmF N N := ⟨fun _ _ _ => rfl, fun _ _ => rfl, fun _ _ => rfl⟩
theorem cmF_t {M K : mm_M} (h : cmF M N) (h' : cmF N K) : cmF M K := ⟨fun k a b => (h'.1 k a b).trans (h.1 k a b), fun j a => (h'.2.1 j a).trans (h.2.1 j a), fun k a => (h'.2.2 k a).trans (h.2.2 k a)⟩
theorem cwR_cm {N' : mm_M} (hf : cmF N N') (h : cwR N m inp W) : cwR N' m inp W := by
  obtain ⟨h1, h2, h3, h4, h5⟩ := h
  refine ⟨(hf.2.1 6 (by decide)).trans h1, (hf.2.1 7 (by decide)).trans h2, fun i hi => ?_, fun i hi => ?_, fun i hi j hj => ?_⟩
  · rw [hf.2.2 39 (by decide)]
    exact h3 i hi
  · rw [hf.1 42 (by decide) (by decide)]
    exact h4 i hi
  · rw [hf.2.2 40 (by decide), hf.2.2 41 (by decide)]
    exact h5 i hi j hj
theorem cmF_aw {e : Nat} : cmF N (awM N 45 e) := ⟨fun _ _ _ => rfl, fun _ _ => rfl, fun k hk => if_neg hk⟩
theorem cmF_i {f : Nat → Int32} : cmF N (mm_i N 44 f) := ⟨fun k _ hk => if_neg hk, fun _ _ => rfl, fun _ _ => rfl⟩

theorem not_0 {v : Int64} {x : Nat} : (v ||| 0).toBitVec.getLsbD x = v.toBitVec.getLsbD x := by
  rw [Int64.toBitVec_or, BitVec.getLsbD_or, bit_0, Bool.or_false]
set_option maxRecDepth 100000 in
theorem su_v {a b w n : Nat} {κ : Nat → Nat} {v1 v2 v3 : Int32} {jf : Int64} {Pp : am_Q} {X : am_X} (hX : am_K d false nm_X10_sumUp Pp X) (n12 : n ≤ 12) (hw : w < 2 ^ n) (hb : b < 2 ^ inp) (hL : inL inp W κ n 60) (hf : ∀ t, t < n → N.1 44 t = nI (κ t)) (hK : ∀ v l10, (∀ x, x < 64 → v.toBitVec.getLsbD x = uvW (fxV inp a b) κ w n x) → X 140 [some (aR 39), some (aI v1), some (aI v2), some (aI v3), some (aI (nI n)), some (aJ jf), none, some (aI (nI w)), some (aJ v), none, l10] [] N) : ∀ r t v, t + r = n → (∀ x, x < 64 → v.toBitVec.getLsbD x = uvW (fxV inp a b) κ w t x) → X 106 [some (aR 39), some (aI v1), some (aI v2), some (aI v3), some (aI (nI n)), some (aJ jf), none, some (aI (nI w)), some (aJ v), none, some (aI (nI t))] [] N := by
  have w31 : w < 2 ^ 31 := Nat.lt_of_lt_of_le hw (Nat.pow_le_pow_right (by decide) (by omega))
  intro r
  induction r with
  | zero =>
    intro t v ht hv
    have ht : t = n := by omega
    subst ht
    refine am_run hX 3 _ _ _ _ ?_
    conv => whnf
    exact ⟨fun _ => hK v _ hv, fun c => absurd (nI_le (by omega) (by omega)) c⟩
  | succ r ih =>
    intro t v ht hv
    obtain ⟨k1, k2, k3⟩ := hL.1 t (by omega)
    refine am_run hX 3 _ _ _ _ ?_
    conv => whnf
    refine ⟨fun c => absurd c (nI_ge (by omega) (by omega)), fun _ => ?_⟩
    refine am_run hX 16 _ _ _ _ ?_
    conv => whnf
    refine ⟨vp_in_nI (by show t < 60; omega) (by decide), ?_⟩
    conv => whnf
    rw [nI_clamp (n := t) (by omega), hf t (by omega), nI_sh w31 t (by omega), nI_m1, nI_1]
    refine ih (t + 1) _ (by omega) fun x hx => ?_
    show _ = (if x = κ t then decide (w / 2 ^ t % 2 = 1) else uvW (fxV inp a b) κ w t x)
    have z : uvW (fxV inp a b) κ w t (κ t) = false := by
      rw [uv_o t fun s hs => by
        have := hL.2.1 s t hs (by omega)
        omega]
      cases e : fxV inp a b (κ t) with
      | false => rfl
      | true =>
        have := fx_lt hb e
        omega
    rcases (by omega : w / 2 ^ t % 2 = 0 ∨ w / 2 ^ t % 2 = 1) with c | c
    · rw [c, show (nI 0).toInt64 <<< ((nI (κ t)).toInt64 &&& 63) = 0 from by
        rw [show (nI 0).toInt64 = 0 from rfl]
        exact Int64.zero_shiftLeft, not_0, hv x hx]
      by_cases e : x = κ t
      · rw [if_pos e, e, z]
        rfl
      · rw [if_neg e]
    · rw [c, show (nI 1).toInt64 = 1 from rfl, show (1 : Int64) <<< ((nI (κ t)).toInt64 &&& 63) = shb (κ t) from rfl, Int64.toBitVec_or, BitVec.getLsbD_or, hv x hx, shb_b (by omega) hx]
      by_cases e : x = κ t
      · rw [if_pos e, decide_eq_true e, Bool.or_true]
        rfl
      · rw [if_neg e, decide_eq_false e, Bool.or_false]
set_option maxRecDepth 100000 in
theorem su_w {a b n : Nat} {κ : Nat → Nat} {N0 : mm_M} {v1 v2 v3 : Int32} {jf : Int64} {Pp : am_Q} {X : am_X} (hX : am_K (d + 2) false nm_X10_sumUp Pp X) (g : gdW m inp W) (n12 : n ≤ 12) (hb : b < 2 ^ inp) (hL : inL inp W κ n 60) (hj : ∀ x, x < 64 → jf.toBitVec.getLsbD x = fxV inp a b x) (h0 : cwR N0 m inp W) (hf : ∀ t, t < n → N0.1 44 t = nI (κ t)) (hP : ∀ N, cmF N0 N → N.1 = N0.1 → (∀ p, p < 4 → N.2 45 p = lI (wsm (fun w => wyC W (uvW (fxV inp a b) κ w n) m) (fun w => egC W (uvW (fxV inp a b) κ w n) m) (2 ^ n) p)) → Pp (.inl none) N) : ∀ r w N l8 l10, w + r = 2 ^ n → cmF N0 N → N.1 = N0.1 → (∀ p, p < 4 → N.2 45 p = lI (wsm (fun w => wyC W (uvW (fxV inp a b) κ w n) m) (fun w => egC W (uvW (fxV inp a b) κ w n) m) w p)) → X 90 [some (aR 39), some (aI v1), some (aI v2), some (aI v3), some (aI (nI n)), some (aJ jf), none, some (aI (nI w)), l8, none, l10] [] N := by
  have p31 : (2 : Nat) ^ n ≤ 2 ^ 12 := Nat.pow_le_pow_right (by decide) n12
  have p12 : (2 : Nat) ^ 12 = 4096 := by decide
  intro r
  induction r with
  | zero =>
    intro w N l8 l10 hw hF hE hs
    have hw : w = 2 ^ n := by omega
    subst hw
    refine am_run hX 5 _ _ _ _ ?_
    conv => whnf
    rw [sh2 n (by omega)]
    refine ⟨fun _ => ?_, fun c => absurd (nI_le (by omega) (by omega)) c⟩
    refine am_run hX 1 _ _ _ _ ?_
    conv => whnf
    exact ⟨trivial, hP N hF hE hs⟩
  | succ r ih =>
    intro w N l8 l10 hw hF hE hs
    refine am_run hX 5 _ _ _ _ ?_
    conv => whnf
    rw [sh2 n (by omega)]
    refine ⟨fun c => absurd c (nI_ge (by omega) (by omega)), fun _ => ?_⟩
    refine am_run hX 4 _ _ _ _ ?_
    conv => whnf
    refine su_v (inp := inp) (W := W) (a := a) (b := b) (κ := κ) hX n12 (by omega) hb hL (fun t ht => by rw [hE]; exact hf t ht) (fun v l10 hv => ?_) n 0 jf (by omega) hj
    refine am_run hX 3 _ _ _ _ ?_
    conv => whnf
    refine am_cq (ct_awC (d := d) (cwR_cm hF h0) g hv (uv_T (fun x hx => fx_lt hb hx) g hL)) ?_
    rintro r' N' ⟨rfl, ⟨hy, rfl⟩ | ⟨hy, rfl⟩⟩
    · refine ⟨_, rfl, ?_⟩
      conv => whnf
      refine am_run hX 2 _ _ _ _ ?_
      conv => whnf
      rw [nI_1]
      refine ih (w + 1) _ _ _ (by omega) (cmF_t hF cmF_aw) hE fun p hp => ?_
      rw [aw_row hs p hp, wsm_t (ok := fun w => wyC W (uvW (fxV inp a b) κ w n) m) hy]
    · refine ⟨_, rfl, ?_⟩
      conv => whnf
      refine am_run hX 2 _ _ _ _ ?_
      conv => whnf
      rw [nI_1]
      refine ih (w + 1) _ _ _ (by omega) hF hE fun p hp => ?_
      rw [hs p hp, wsm_f (ok := fun w => wyC W (uvW (fxV inp a b) κ w n) m) hy]
/-- the class keeps what was asked for last -/
def askI (M : mm_M) (m inp : Nat) (W : WB) : Prop := M.1 39 9 = -1 ∨ ∃ a b, a < 2 ^ inp ∧ b < 2 ^ inp ∧ M.1 39 9 = nI (a + 16 * b) ∧ ∀ p, p < 4 → M.2 45 p = lI (mnV m inp W a b p)
set_option maxRecDepth 100000 in
theorem ct_sum {a b : Nat} (h : cwR N m inp W) (g : gdW m inp W) (n12 : icn inp W 60 ≤ 12) (ha : a < 2 ^ inp) (hb : b < 2 ^ inp) (hq : askI N m inp W) : am_M (d + 3) false nm_X10_sumUp [aR 39, aI (nI a), aI (nI b)] N (fun r N' => r = .inl none ∧ cmF N N' ∧ N'.1 39 9 = nI (a + 16 * b) ∧ ∀ p, p < 4 → N'.2 45 p = lI (mnV m inp W a b p)) := by
  have a16 := p16 g.2.2.1 ha
  have b16 := p16 g.2.2.1 hb
  have m60 := g.1
  refine ⟨rfl, rfl, rfl, fun X hX => am_run hX 10 _ _ _ _ ?_⟩
  conv => whnf
  rw [q_e a16 b16]
  refine ⟨fun ne => ?_, fun e => ?_⟩
  · refine am_run hX 7 _ _ _ _ ?_
    conv => whnf
    refine am_c0 (ct_fill45 (d := d + 1)) ?_
    conv => whnf
    refine am_run hX 7 _ _ _ _ ?_
    conv => whnf
    have hc : ∀ f, cwR (mm_l (mm_i N 39 (upd (N.1 39) 9 (nI (a + 16 * b)))) 45 f) m inp W := fun f => h
    rw [show (mm_l (mm_i N 39 (upd (N.1 39) 9 (nI (a + 16 * b)))) 45 (fun j => if j < 4 then 0 else (mm_i N 39 (upd (N.1 39) 9 (nI (a + 16 * b)))).2 45 j)).1 39 7 = nI inp from h.2.1, show (2 : Int32) = nI 2 from rfl, nI_mul]
    have k := su_i (d := d + 1) (W := W) (N := mm_l (mm_i N 39 (upd (N.1 39) 9 (nI (a + 16 * b)))) 45 (fun j => if j < 4 then 0 else (mm_i N 39 (upd (N.1 39) 9 (nI (a + 16 * b)))).2 45 j)) (v1 := nI a) (v2 := nI b) (v3 := nI (a + 16 * b)) hX (hc _) g (fun n κ f hL hf => ?_) (m - 2 * inp) (2 * inp) 0 (fun _ => 0) (N.1 44) (by have := g.2.1; omega) (Nat.le_refl _) inL_0 (fun t ht => absurd ht (Nat.not_lt_zero _))
    · rw [show mm_i (mm_l (mm_i N 39 (upd (N.1 39) 9 (nI (a + 16 * b)))) 45 (fun j => if j < 4 then 0 else (mm_i N 39 (upd (N.1 39) 9 (nI (a + 16 * b)))).2 45 j)) 44 (N.1 44) = mm_l (mm_i N 39 (upd (N.1 39) 9 (nI (a + 16 * b)))) 45 (fun j => if j < 4 then 0 else (mm_i N 39 (upd (N.1 39) 9 (nI (a + 16 * b)))).2 45 j) from mm_iz _ _] at k
      exact k
    · have hL6 : inL inp W κ n 60 := by
        have := inL_up g hL (60 - m)
        rw [show m + (60 - m) = 60 by omega] at this
        exact this
      obtain ⟨u1, u2⟩ := inL_u hL6 (inL_c g)
      subst u1
      refine am_run hX 11 _ _ _ _ ?_
      conv => whnf
      rw [show (mm_i (mm_l (mm_i N 39 (upd (N.1 39) 9 (nI (a + 16 * b)))) 45 (fun j => if j < 4 then 0 else (mm_i N 39 (upd (N.1 39) 9 (nI (a + 16 * b)))).2 45 j)) 44 f).1 39 7 = nI inp from h.2.1]
      refine su_w (d := d) (a := a) (b := b) (N0 := mm_i (mm_l (mm_i N 39 (upd (N.1 39) 9 (nI (a + 16 * b)))) 45 (fun j => if j < 4 then 0 else (mm_i N 39 (upd (N.1 39) 9 (nI (a + 16 * b)))).2 45 j)) 44 f) hX g n12 hb hL6 (fun x hx => fx_b g.2.2.1 ha hb hx) (cwR_cm cmF_i (hc _)) hf (fun N' f1 f2 f3 => ⟨rfl, cmF_t ?_ f1, ?_, fun p hp => ?_⟩) (2 ^ icn inp W 60) 0 _ _ _ (by omega) (cmF_r _) rfl (fun p hp => ?_)
      · refine ⟨fun k h1 h2 => ?_, fun j hj => ?_, fun k hk => ?_⟩
        · show (if k = 44 then f else if k = 39 then _ else N.1 k) = N.1 k
          rw [if_neg h2, if_neg h1]
        · show upd (N.1 39) 9 (nI (a + 16 * b)) j = N.1 39 j
          exact if_neg hj
        · exact if_neg hk
      · rw [f2]
        rfl
      · rw [f3 p hp]
        unfold mnV
        congr 1
        refine wsm_c _ fun w _ => ?_
        rw [uv_c _ u2]
        exact ⟨Iff.rfl, rfl⟩
      · show (if p < 4 then (0 : Int64) else _) = lI 0
        rw [if_pos hp]
        rfl
  · have e := Decidable.of_not_not e
    refine am_run hX 1 _ _ _ _ ?_
    conv => whnf
    refine ⟨trivial, rfl, cmF_r N, e.symm, ?_⟩
    rcases hq with hq | ⟨a', b', a1, b1, e1, e2⟩
    · rw [hq] at e
      exact absurd e (nI_nm (by omega))
    · have a6 := p16 g.2.2.1 a1
      have b6 := p16 g.2.2.1 b1
      rw [e1] at e
      have := (nI_eq (by omega) (by omega)).mp e
      obtain rfl : a = a' := by omega
      obtain rfl : b = b' := by omega
      exact e2
end MEAN
