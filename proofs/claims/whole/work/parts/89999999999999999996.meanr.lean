/-! DIAGRAMS: all ways of a MEANING: the reference -/
/-- what a MEANING may change in the reference -/
def rmF (N N' : mm_M) : Prop := (∀ k, k ≠ 174 → k ≠ 175 → N'.1 k = N.1 k) ∧ ∀ k, k ≠ 153 → k ≠ 118 → N'.2 k = N.2 k
theorem rmF_r (N : mm_M) : rmF N N := ⟨fun _ _ _ => rfl, fun _ _ _ => rfl⟩
theorem rmF_t {M N K : mm_M} (h : rmF M N) (h' : rmF N K) : rmF M K := ⟨fun k a b => (h'.1 k a b).trans (h.1 k a b), fun k a b => (h'.2 k a b).trans (h.2 k a b)⟩
section MEANR
variable {d m inp : Nat} {N : mm_M} {W : WB}
theorem rwR_rm2 {N' : mm_M} (hf : rmF N N') (h : rwR N inp W) : rwR N' inp W := by
  obtain ⟨h1, h2, h3, h4, h5⟩ := h
  have e : ∀ k, k ≠ 174 → k ≠ 175 → N'.1 k = N.1 k := hf.1
  refine ⟨?_, ?_, fun i hi => ?_, fun i hi => ?_, fun i j hi hj => ?_⟩
  · rw [e 108 (by decide) (by decide)]; exact h1
  · rw [e 108 (by decide) (by decide)]; exact h2
  · rw [e 169 (by decide) (by decide)]; exact h3 i hi
  · rw [e 170 (by decide) (by decide)]; exact h4 i hi
  · rw [e 171 (by decide) (by decide)]; exact h5 i j hi hj
theorem rmF_aw {e : Nat} : rmF N (awM N 153 e) := ⟨fun _ _ _ => rfl, fun k hk _ => if_neg hk⟩
theorem rmF_4 {f : Nat → Int32} : rmF N (mm_i N 174 f) := ⟨fun k hk _ => if_neg hk, fun _ _ _ => rfl⟩
theorem rmF_5 {f : Nat → Int32} : rmF N (mm_i N 175 f) := ⟨fun k _ hk => if_neg hk, fun _ _ _ => rfl⟩
set_option maxRecDepth 100000 in
theorem mr_I {Pp : am_Q} {X : am_X} {p1 p2 q v4 : Int32} (hX : am_K d false nm_X12_meaning Pp X) (h : rwR N inp W) (hK : ∀ n κ f, inL inp W κ n 60 → (∀ t, t < n → f t = nI (κ t)) → X 121 [some (aR 108), some (aI p1), some (aI p2), some (aI q), some (aI v4), some (aI (nI n)), some (aI (nI 60)), none] [] (mm_i N 174 f)) : ∀ w i n κ f, i + w = 60 → 2 * inp ≤ i → inL inp W κ n i → (∀ t, t < n → f t = nI (κ t)) → X 83 [some (aR 108), some (aI p1), some (aI p2), some (aI q), some (aI v4), some (aI (nI n)), some (aI (nI i)), none] [] (mm_i N 174 f) := by
  intro w
  induction w with
  | zero =>
    intro i n κ f hi h2 hL hf
    have hi : i = 60 := by omega
    subst hi
    refine am_run hX 3 _ _ _ _ ?_
    conv => whnf
    exact ⟨fun _ => hK n κ f hL hf, fun c => absurd (by decide) c⟩
  | succ w ih =>
    intro i n κ f hi h2 hL hf
    have bn := inL_b hL
    have hI : vp_in (nI n) 60 := vp_in_nI (by omega) (by decide)
    have hi6 : vp_in (nI i) 60 := vp_in_nI (by omega) (by decide)
    refine am_run hX 3 _ _ _ _ ?_
    conv => whnf
    refine ⟨fun c => absurd c (nI_ge (a := i) (b := 60) (by omega) (by decide)), fun _ => ?_⟩
    refine am_run hX 5 _ _ _ _ ?_
    conv => whnf
    refine ⟨hi6, ?_⟩
    conv => whnf
    rw [nI_clamp (n := i) (by omega), show (mm_i N 174 f).1 169 i = if W.1 i = true then 1 else 0 from h.2.2.1 i (by omega)]
    have nx : ∀ n κ f, inL inp W κ n (i + 1) → (∀ t, t < n → f t = nI (κ t)) → X 115 [some (aR 108), some (aI p1), some (aI p2), some (aI q), some (aI v4), some (aI (nI n)), some (aI (nI i)), none] [] (mm_i N 174 f) := fun n κ f hL hf => by
      refine am_run hX 2 _ _ _ _ ?_
      conv => whnf
      rw [nI_1]
      exact ih (i + 1) n κ f (by omega) (by omega) hL hf
    by_cases t : W.1 i = true
    · rw [if_pos t]
      refine ⟨fun _ => ?_, fun c => absurd (by decide) c⟩
      refine am_run hX 6 _ _ _ _ ?_
      conv => whnf
      refine ⟨hI, ?_⟩
      conv => whnf
      rw [nI_clamp (n := n) (by omega), mi_two, nI_1]
      refine nx (n + 1) _ _ (inL_s hL h2 t) fun s hs => ?_
      show upd f n (nI i) s = nI (if s = n then i else κ s)
      unfold upd
      by_cases e : s = n
      · rw [if_pos e, if_pos e]
      · rw [if_neg e, if_neg e]
        exact hf s (by omega)
    · rw [if_neg t]
      refine ⟨fun c => absurd rfl c, fun _ => ?_⟩
      refine am_run hX 1 _ _ _ _ ?_
      conv => whnf
      exact nx n κ f (inL_n hL t) hf
theorem fx_in {a b i : Nat} (hi : i < inp) : fxV inp a b i = decide (a / 2 ^ i % 2 = 1) := by
  unfold fxV
  rw [decide_eq_false (p := inp ≤ i ∧ b / 2 ^ (i - inp) % 2 = 1) (by omega), Bool.or_false]
  by_cases c : a / 2 ^ i % 2 = 1
  · rw [decide_eq_true c, decide_eq_true ⟨hi, c⟩]
  · rw [decide_eq_false c, decide_eq_false fun z => c z.2]
theorem fx_ou {a b i : Nat} : fxV inp a b (inp + i) = decide (b / 2 ^ i % 2 = 1) := by
  unfold fxV
  rw [decide_eq_false (p := inp + i < inp ∧ a / 2 ^ (inp + i) % 2 = 1) (by omega), Bool.false_or, show inp + i - inp = i by omega]
  by_cases c : b / 2 ^ i % 2 = 1
  · rw [decide_eq_true c, decide_eq_true ⟨by omega, c⟩]
  · rw [decide_eq_false c, decide_eq_false fun z => c z.2]
theorem b1_d {k : Nat} : k % 2 = b1 (decide (k % 2 = 1)) := by
  rcases (by omega : k % 2 = 0 ∨ k % 2 = 1) with c | c
  · rw [c]; rfl
  · rw [c]; rfl
set_option maxRecDepth 100000 in
theorem mr_g {a b : Nat} {Pp : am_Q} {X : am_X} {q v4 v5 : Int32} (hX : am_K d false nm_X12_meaning Pp X) (h99 : N.1 108 99 = nI inp) (i4 : inp ≤ 4) (ha : a < 2 ^ inp) (hb : b < 2 ^ inp) (hK : ∀ f, (∀ x, x < 2 * inp → f x = nI (b1 (fxV inp a b x))) → X 195 [some (aR 108), some (aI (nI a)), some (aI (nI b)), some (aI q), some (aI v4), some (aI v5), some (aI (nI inp)), none] [] (mm_i N 175 f)) : ∀ w i f, i + w = inp → (∀ x, x < i → f x = nI (b1 (fxV inp a b x)) ∧ f (inp + x) = nI (b1 (fxV inp a b (inp + x)))) → X 149 [some (aR 108), some (aI (nI a)), some (aI (nI b)), some (aI q), some (aI v4), some (aI v5), some (aI (nI i)), none] [] (mm_i N 175 f) := by
  have a16 := p16 i4 ha
  have b16 := p16 i4 hb
  intro w
  induction w with
  | zero =>
    intro i f hi hf
    have hi : i = inp := by omega
    subst hi
    refine am_run hX 4 _ _ _ _ ?_
    conv => whnf
    rw [show (mm_i N 175 f).1 108 99 = nI i from h99]
    refine ⟨fun _ => hK f fun x hx => ?_, fun c => absurd (nI_le (by omega) (by omega)) c⟩
    by_cases c : x < i
    · exact (hf x c).1
    · have := (hf (x - i) (by omega)).2
      rw [show i + (x - i) = x by omega] at this
      exact this
  | succ w ih =>
    intro i f hi hf
    refine am_run hX 4 _ _ _ _ ?_
    conv => whnf
    rw [show (mm_i N 175 f).1 108 99 = nI inp from h99]
    refine ⟨fun c => absurd c (nI_ge (by omega) (by omega)), fun _ => ?_⟩
    refine am_run hX 23 _ _ _ _ ?_
    conv => whnf
    refine ⟨vp_in_nI (by show i < 60; omega) (by decide), ?_⟩
    conv => whnf
    rw [nI_clamp (n := i) (by omega), mi_two]
    rw [show ∀ g, (mm_i N 175 g).1 108 99 = nI inp from fun g => h99, nI_add]
    refine ⟨vp_in_nI (by show inp + i < 60; omega) (by decide), ?_⟩
    conv => whnf
    rw [nI_clamp (n := inp + i) (by omega), mi_two, nI_sh (by omega) i (by omega), nI_sh (by omega) i (by omega), nI_m1, nI_m1, nI_1, mm_i1]
    refine ih (i + 1) _ (by omega) fun x hx => ?_
    unfold upd
    rw [if_neg (by omega : ¬ x = inp + i)]
    by_cases e : x = i
    · rw [if_pos e, if_pos (by omega), e, fx_in (by omega), fx_ou, ← b1_d, ← b1_d]
      exact ⟨rfl, rfl⟩
    · rw [if_neg e, if_neg (by omega), if_neg (by omega)]
      exact hf x (by omega)
set_option maxRecDepth 100000 in
theorem mr_v {w n : Nat} {fx : Nat → Bool} {κ : Nat → Nat} {p1 p2 q v4 : Int32} {Pp : am_Q} {X : am_X} (hX : am_K d false nm_X12_meaning Pp X) (n12 : n ≤ 12) (hw : w < 2 ^ n) (hL : inL inp W κ n 60) (hf : ∀ t, t < n → N.1 174 t = nI (κ t)) (hK : ∀ f l7, (∀ x, x < 2 * inp → f x = nI (b1 (fx x))) → (∀ t, t < n → f (κ t) = nI (b1 (uvW fx κ w n (κ t)))) → X 246 [some (aR 108), some (aI p1), some (aI p2), some (aI q), some (aI v4), some (aI (nI n)), some (aI (nI w)), l7] [] (mm_i N 175 f)) : ∀ r t f, t + r = n → (∀ x, x < 2 * inp → f x = nI (b1 (fx x))) → (∀ s, s < t → f (κ s) = nI (b1 (uvW fx κ w t (κ s)))) → X 214 [some (aR 108), some (aI p1), some (aI p2), some (aI q), some (aI v4), some (aI (nI n)), some (aI (nI w)), some (aI (nI t))] [] (mm_i N 175 f) := by
  have w31 : w < 2 ^ 31 := Nat.lt_of_lt_of_le hw (Nat.pow_le_pow_right (by decide) (by omega))
  intro r
  induction r with
  | zero =>
    intro t f ht h1 h2
    have ht : t = n := by omega
    subst ht
    refine am_run hX 3 _ _ _ _ ?_
    conv => whnf
    exact ⟨fun _ => hK f _ h1 h2, fun c => absurd (nI_le (by omega) (by omega)) c⟩
  | succ r ih =>
    intro t f ht h1 h2
    obtain ⟨k1, k2, k3⟩ := hL.1 t (by omega)
    refine am_run hX 3 _ _ _ _ ?_
    conv => whnf
    refine ⟨fun c => absurd c (nI_ge (by omega) (by omega)), fun _ => ?_⟩
    refine am_run hX 14 _ _ _ _ ?_
    conv => whnf
    refine ⟨vp_in_nI (by show t < 60; omega) (by decide), ?_⟩
    conv => whnf
    rw [nI_clamp (n := t) (by omega), show (mm_i N 175 f).1 174 t = nI (κ t) from hf t (by omega), nI_sh w31 t (by omega), nI_m1]
    refine ⟨vp_in_nI (by show κ t < 60; omega) (by decide), ?_⟩
    conv => whnf
    rw [nI_clamp (n := κ t) (by omega), mi_two, nI_1, mm_i1]
    refine ih (t + 1) _ (by omega) (fun x hx => ?_) fun s hs => ?_
    · show (if x = κ t then _ else f x) = _
      rw [if_neg (by omega)]
      exact h1 x hx
    · show (if κ s = κ t then nI (w / 2 ^ t % 2) else f (κ s)) = nI (b1 (if κ s = κ t then decide (w / 2 ^ t % 2 = 1) else uvW fx κ w t (κ s)))
      by_cases e : s = t
      · rw [e, if_pos rfl, if_pos rfl, ← b1_d]
      · have := hL.2.1 s t (by omega) (by omega)
        rw [if_neg (by omega), if_neg (by omega)]
        exact h2 s (by omega)
/-- what is summed up, as the reference counts -/
theorem mn_r {a b : Nat} (g : gdW m inp W) (ho : oD inp W) (hb : b < 2 ^ inp) {p : Nat} : wsm (fun w => wyR W (uvW (fxV inp a b) (ick inp W 60) w (icn inp W 60))) (fun w => egI W (uvW (fxV inp a b) (ick inp W 60) w (icn inp W 60)) (ick inp W 60) (icn inp W 60) + prI W (uvW (fxV inp a b) (ick inp W 60) w (icn inp W 60)) 60) (2 ^ icn inp W 60) p = mnV m inp W a b p := by
  refine wsm_c _ fun w _ => ⟨(wy_iff g).symm, ?_⟩
  exact (eg_eq g ho (uv_T (fun x hx => fx_lt hb hx) g (inL_c g)) (inL_c g)).symm
set_option maxRecDepth 100000 in
theorem mr_w {n : Nat} {fx : Nat → Bool} {κ : Nat → Nat} {N0 : mm_M} {p1 p2 q v4 : Int32} {Pp : am_Q} {X : am_X} (hX : am_K (d + 2) false nm_X12_meaning Pp X) (g : gdW m inp W) (n12 : n ≤ 12) (hL : inL inp W κ n 60) (h0 : rwR N0 inp W) (hf : ∀ t, t < n → N0.1 174 t = nI (κ t)) (hfx : ∀ x, fx x = true → x < 2 * inp) (hK : ∀ N l7, rmF N0 N → N.1 174 = N0.1 174 → N.2 153 4 = 0 → (∀ p, p < 4 → N.2 153 p = lI (wsm (fun w => wyR W (uvW fx κ w n)) (fun w => egI W (uvW fx κ w n) κ n + prI W (uvW fx κ w n) 60) (2 ^ n) p)) → X 258 [some (aR 108), some (aI p1), some (aI p2), some (aI q), some (aI v4), some (aI (nI n)), some (aI (nI (2 ^ n))), l7] [] N) : ∀ r w N l7, w + r = 2 ^ n → rmF N0 N → N.1 174 = N0.1 174 → (∀ x, x < 2 * inp → N.1 175 x = nI (b1 (fx x))) → N.2 153 4 = 0 → (∀ p, p < 4 → N.2 153 p = lI (wsm (fun w => wyR W (uvW fx κ w n)) (fun w => egI W (uvW fx κ w n) κ n + prI W (uvW fx κ w n) 60) w p)) → X 202 [some (aR 108), some (aI p1), some (aI p2), some (aI q), some (aI v4), some (aI (nI n)), some (aI (nI w)), l7] [] N := by
  have p31 : (2 : Nat) ^ n ≤ 2 ^ 12 := Nat.pow_le_pow_right (by decide) n12
  have p12 : (2 : Nat) ^ 12 = 4096 := by decide
  intro r
  induction r with
  | zero =>
    intro w N l7 hw hF hE hg h4 hs
    have hw : w = 2 ^ n := by omega
    subst hw
    refine am_run hX 5 _ _ _ _ ?_
    conv => whnf
    rw [sh2 n (by omega)]
    exact ⟨fun _ => hK N _ hF hE h4 hs, fun c => absurd (nI_le (by omega) (by omega)) c⟩
  | succ r ih =>
    intro w N l7 hw hF hE hg h4 hs
    refine am_run hX 5 _ _ _ _ ?_
    conv => whnf
    rw [sh2 n (by omega)]
    refine ⟨fun c => absurd c (nI_ge (by omega) (by omega)), fun _ => ?_⟩
    refine am_run hX 2 _ _ _ _ ?_
    conv => whnf
    have key := mr_v (d := d + 2) (inp := inp) (W := W) (N := N) (fx := fx) (κ := κ) (w := w) (p1 := p1) (p2 := p2) (q := q) (v4 := v4) hX n12 (by omega) hL (fun t ht => by rw [hE]; exact hf t ht) (fun f l7 f1 f2 => ?_) n 0 (N.1 175) (by omega) hg (fun s hs => absurd hs (Nat.not_lt_zero _))
    · rw [mm_iz] at key
      exact key
    · refine am_run hX 3 _ _ _ _ ?_
      conv => whnf
      have hgv : gvR (mm_i N 175 f) W (uvW fx κ w n) := fun x hx => by
        rw [mm_i1]
        rcases mem_dec κ x n with ⟨t, ht, e⟩ | hno
        · rw [← e]
          exact f2 t ht
        · by_cases c : x < 2 * inp
          · rw [uv_o n hno]
            exact f1 x c
          · obtain ⟨t, t1, t2⟩ := hL.2.2.1 x (by omega) (by have := g.1; have := g.2.2.2.2.1 x hx; omega) hx
            exact absurd t2 (hno t t1)
      refine am_cq (ct_awR (d := d) (m := m) (rwR_rm2 (rmF_t hF rmF_5) h0) g (by omega) hgv fun t ht => ⟨(hL.1 t ht).1, ?_⟩) ?_
      · show N.1 174 t = nI (κ t)
        rw [hE]
        exact hf t ht
      rintro r' N' ⟨rfl, ⟨hy, rfl⟩ | ⟨hy, rfl⟩⟩
      · refine ⟨_, rfl, ?_⟩
        conv => whnf
        refine am_run hX 2 _ _ _ _ ?_
        conv => whnf
        rw [nI_1]
        refine ih (w + 1) _ _ (by omega) (rmF_t hF (rmF_t rmF_5 rmF_aw)) hE (fun x hx => ?_) ?_ fun p hp => ?_
        · exact f1 x hx
        · show vp_updL (N.2 153) _ _ 4 = 0
          unfold vp_updL
          rw [if_neg (by omega)]
          exact h4
        · rw [aw_row (N := mm_i N 175 f) hs p hp, wsm_t (ok := fun w => wyR W (uvW fx κ w n)) hy]
      · refine ⟨_, rfl, ?_⟩
        conv => whnf
        refine am_run hX 2 _ _ _ _ ?_
        conv => whnf
        rw [nI_1]
        refine ih (w + 1) _ _ (by omega) (rmF_t hF rmF_5) hE (fun x hx => ?_) h4 fun p hp => ?_
        · exact f1 x hx
        · rw [show (mm_i N 175 f).2 153 p = N.2 153 p from rfl, hs p hp, wsm_f (ok := fun w => wyR W (uvW fx κ w n)) hy]
end MEANR
