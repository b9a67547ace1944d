/-! KIN: the class's search -/
/-- what is seen, what is fresh, what is not done yet -/
def KS (n g0 : Nat) (f h : Nat → Int64) (D : Nat → Prop) : Prop := sb f g0 = true ∧ (∀ x, x < 32768 → sb f x = true → x < 2 ^ (n * (n - 1) / 2) ∧ RC n g0 x) ∧ (∀ x, x < 32768 → sb h x = true → sb f x = true) ∧ (∀ x, x < 32768 → D x → sb f x = true) ∧ ∀ x, x < 32768 → sb f x = true → D x ∨ sb h x = true ∨ ∀ p, p < n → sb f (cp n p x) = true
theorem KS_see {n g0 y : Nat} {f h f' h' : Nat → Int64} {D : Nat → Prop} (hk : KS n g0 f h D) (hy : y < 2 ^ (n * (n - 1) / 2)) (hr : RC n g0 y) (hf : ∀ x, sb f' x = (sb f x || x == y)) (hh : ∀ x, sb h' x = (sb h x || (x == y && !sb f y))) : KS n g0 f' h' D := by
  obtain ⟨k1, k2, k3, k4, k5⟩ := hk
  have mono : ∀ x, sb f x = true → sb f' x = true := fun x q => by rw [hf, q]; rfl
  refine ⟨mono _ k1, fun x hx q => ?_, fun x hx q => ?_, fun x hx q => mono _ (k4 x hx q), fun x hx q => ?_⟩
  · rw [hf] at q
    rcases (Bool.or_eq_true _ _).mp q with q | q
    · exact k2 x hx q
    · rw [eq_of_beq q]; exact ⟨hy, hr⟩
  · rw [hh] at q
    rcases (Bool.or_eq_true _ _).mp q with q | q
    · exact mono _ (k3 x hx q)
    · have q := ((Bool.and_eq_true _ _).mp q).1
      rw [hf, q]
      exact Bool.or_true _
  · rw [hf] at q
    by_cases hfx : sb f x = true
    · rcases k5 x hx hfx with q | q | q
      · exact Or.inl q
      · exact Or.inr (Or.inl (by rw [hh, q]; rfl))
      · exact Or.inr (Or.inr fun p hp => mono _ (q p hp))
    · have hfx : sb f x = false := by simpa using hfx
      rw [hfx, Bool.false_or] at q
      refine Or.inr (Or.inl ?_)
      rw [hh, q, ← eq_of_beq q, hfx]
      simp
theorem KS_D {n g0 : Nat} {f h : Nat → Int64} {D D' : Nat → Prop} (hk : KS n g0 f h D) (h1 : ∀ x, x < 32768 → D' x → D x) (h2 : ∀ x, x < 32768 → D x → D' x ∨ ∀ p, p < n → sb f (cp n p x) = true) : KS n g0 f h D' := by
  obtain ⟨k1, k2, k3, k4, k5⟩ := hk
  refine ⟨k1, k2, k3, fun x hx q => k4 x hx (h1 x hx q), fun x hx q => ?_⟩
  rcases k5 x hx q with q | q | q
  · rcases h2 x hx q with q | q
    · exact Or.inl q
    · exact Or.inr (Or.inr q)
  · exact Or.inr (Or.inl q)
  · exact Or.inr (Or.inr q)
theorem m15 {n : Nat} (hn : n ≤ 6) : 2 ^ (n * (n - 1) / 2) ≤ 32768 := by
  have : ∀ n, n < 7 → 2 ^ (n * (n - 1) / 2) ≤ 32768 := by decide
  exact this n (by omega)
/-- what a long is behind b places -/
def LB (l0 : Int64) (b : Nat) (l : Int64) : Prop := ∀ i, l.toBitVec.getLsbD i = l0.toBitVec.getLsbD (b + i)
theorem LB_s {l0 l : Int64} {b : Nat} (h : LB l0 b l) : LB l0 (b + 1) ((l.toUInt64 >>> ((1 : Int32).toInt64.toUInt64 &&& Int64.toUInt64 63)).toInt64) := fun i => by
  have e : (l.toUInt64 >>> ((1 : Int32).toInt64.toUInt64 &&& Int64.toUInt64 63)).toInt64.toBitVec = l.toBitVec >>> 1 := rfl
  rw [e, BitVec.getLsbD_ushiftRight, h (1 + i), show b + (1 + i) = b + 1 + i by omega]
theorem l_0 {l : Int64} : l = 0 ↔ ∀ i, l.toBitVec.getLsbD i = false := by
  constructor
  · intro h i; subst h; simp
  · intro h
    apply Int64.toBitVec_inj.mp
    apply BitVec.eq_of_getLsbD_eq
    intro i hi
    rw [h i]
    simp
theorem l_1 {l : Int64} : l &&& 1 = 0 ↔ l.toBitVec.getLsbD 0 = false := by
  have := bw_and l 0 (by decide)
  rw [show bw 0 = 1 from by decide] at this
  exact this
section KNS
variable {d : Nat} {M : mm_M} {n g0 w : Nat}
set_option maxRecDepth 100000 in
theorem sp_l2 {P : am_Q} {X : am_X} {l : Int64} {b c0 : Nat} {hs : Nat → Int64} {D : Nat → Prop} (hX : am_K (d + 2) false nm_X7_spreadKin P X) (hn1 : 1 ≤ n) (hn : n ≤ 6) (hw : w < 512) (hb : b < 64) (h1 : ¬ l &&& 1 = 0) (hD : D (64 * w + b)) (hK : ∀ f h k, KS n g0 f h D → cn (sb f) 32768 = c0 + k → (k = 0 → ∀ x, x < 32768 → sb h x = sb hs x) → (∀ p, p < n → sb f (cp n p (64 * w + b)) = true) → ∀ l7, X 86 [some (aR 70), some (aI (nI n)), some (aI (nI w)), some (aI (nI k)), some (aJ l), none, some (aI (nI b)), l7] [] (mm_l (mm_l M 79 f) 80 h)) : ∀ (m p : Nat), p + m = n → ∀ f h k, KS n g0 f h D → cn (sb f) 32768 = c0 + k → (k = 0 → ∀ x, x < 32768 → sb h x = sb hs x) → (∀ q, q < p → sb f (cp n q (64 * w + b)) = true) → X 37 [some (aR 70), some (aI (nI n)), some (aI (nI w)), some (aI (nI k)), some (aJ l), none, some (aI (nI b)), some (aI (nI p))] [] (mm_l (mm_l M 79 f) 80 h) := by
  intro m
  induction m with
  | zero =>
    intro p hp f h k k1 k2 k3 k4
    have hp : p = n := by omega
    subst hp
    refine am_run hX 3 _ _ _ _ ?_
    conv => whnf
    exact ⟨fun _ => hK f h k k1 k2 k3 k4 _, fun c => absurd (nI_le (Nat.le_refl _) (by omega)) c⟩
  | succ m ih =>
    intro p hp f h k k1 k2 k3 k4
    have hx : 64 * w + b < 32768 := by omega
    have hxs := k1.2.2.2.1 _ hx hD
    have hxr := k1.2.1 _ hx hxs
    have hy := cp_lt hn p hxr.1
    have hm := m15 hn
    have hcl := cn_le (sb f) 32768
    refine am_run hX 3 _ _ _ _ ?_
    conv => whnf
    refine ⟨fun c => absurd c (nI_ge (by omega) (by omega)), fun _ => ?_⟩
    refine am_run hX 6 _ _ _ _ ?_
    conv => whnf
    rw [lg_0]
    refine ⟨fun c => absurd c h1, fun _ => ?_⟩
    refine am_run hX 12 _ _ _ _ ?_
    conv => whnf
    have ex : 64 * nI w + nI b = nI (64 * w + b) := by
      rw [show (64 : Int32) = nI 64 from rfl, nI_mul, nI_add]
    rw [ex]
    refine am_c1 (ct_cp1 (d := d) (n := n) (g := 64 * w + b) (p := p) hn1 hn (by omega) hx) ?_
    conv => whnf
    refine am_cq (ct_see (d := d + 1) (g := cp n p (64 * w + b)) (by omega)) ?_
    rintro r M' ⟨f', h', rfl, q1, q2, rfl⟩
    refine ⟨_, rfl, ?_⟩
    conv => whnf
    have e79 : (mm_l (mm_l M 79 f) 80 h).2 79 = f := by rw [mm_lne _ _ _ _ (by decide), mm_l2]
    have e80 : (mm_l (mm_l M 79 f) 80 h).2 80 = h := mm_l2 _ _ _
    rw [e79] at q1 q2 ⊢
    rw [e80] at q2
    have eM : mm_l (mm_l (mm_l (mm_l M 79 f) 80 h) 79 f') 80 h' = mm_l (mm_l M 79 f') 80 h' := by
      unfold mm_l
      refine Prod.ext rfl (funext fun q => ?_)
      by_cases h1 : q = 80
      · simp [h1]
      · by_cases h2 : q = 79
        · simp [h2]
        · simp [h1, h2]
    rw [eM]
    have k1' := KS_see k1 hy (RC_s hxr.2 (by omega)) q1 q2
    have k4' : ∀ q, q < p + 1 → sb f' (cp n q (64 * w + b)) = true := fun q hq => by
      rw [q1]
      by_cases e : q = p
      · rw [e]; simp
      · rw [k4 q (by omega)]; rfl
    by_cases hs : sb f (cp n p (64 * w + b)) = true
    · rw [if_pos hs]
      have hff : ∀ x, sb f' x = sb f x := fun x => by
        rw [q1]
        by_cases e : x = cp n p (64 * w + b)
        · rw [e, hs]; rfl
        · have : (x == cp n p (64 * w + b)) = false := by simp [e]
          rw [this, Bool.or_false]
      refine ⟨fun _ => ?_, fun c => absurd rfl c⟩
      refine am_run hX 5 _ _ _ _ ?_
      conv => whnf
      rw [nI_1, show (0 : Int32) = nI 0 from rfl, nI_add]
      refine ih (p + 1) (by omega) f' h' k k1' ?_ (fun e x hx => ?_) k4'
      · rw [cn_c 32768 (fun x _ => hff x)]; exact k2
      · rw [q2, hs, k3 e x hx]
        simp
    · rw [if_neg hs]
      have hs : sb f (cp n p (64 * w + b)) = false := by simpa using hs
      refine ⟨fun c => absurd c (by decide), fun _ => ?_⟩
      refine am_run hX 6 _ _ _ _ ?_
      conv => whnf
      rw [nI_1, nI_1]
      refine ih (p + 1) (by omega) f' h' (k + 1) k1' ?_ (fun e => absurd e (by omega)) k4'
      rw [cn_s q1 hs, if_pos (by omega)]
      omega
set_option maxRecDepth 100000 in
theorem sp_l1 {P : am_Q} {X : am_X} {l0 : Int64} {c0 : Nat} {hs : Nat → Int64} (hX : am_K (d + 2) false nm_X7_spreadKin P X) (hn1 : 1 ≤ n) (hn : n ≤ 6) (hw : w < 512) (hP : ∀ f h k, KS n g0 f h (fun _ => False) → cn (sb f) 32768 = c0 + k → (k = 0 → ∀ x, x < 32768 → sb h x = sb hs x) → P (.inl (some (aI (nI k)))) (mm_l (mm_l M 79 f) 80 h)) : ∀ (m b : Nat), b + m = 64 → ∀ f h k l, KS n g0 f h (fun x => x / 64 = w ∧ b ≤ x % 64 ∧ l0.toBitVec.getLsbD (x % 64) = true) → cn (sb f) 32768 = c0 + k → (k = 0 → ∀ x, x < 32768 → sb h x = sb hs x) → LB l0 b l → ∀ l7, X 20 [some (aR 70), some (aI (nI n)), some (aI (nI w)), some (aI (nI k)), some (aJ l), none, some (aI (nI b)), l7] [] (mm_l (mm_l M 79 f) 80 h) := by
  intro m
  induction m with
  | zero =>
    intro b hb f h k l k1 k2 k3 k4 l7
    have hb : b = 64 := by omega
    subst hb
    refine am_run hX 5 _ _ _ _ ?_
    conv => whnf
    refine ⟨fun _ => ?_, fun c => absurd (by decide) c⟩
    conv => whnf
    exact ⟨trivial, hP f h k (KS_D k1 (fun x _ q => q.elim) (fun x _ q => by have := q.2.1; omega)) k2 k3⟩
  | succ m ih =>
    intro b hb f h k l k1 k2 k3 k4 l7
    have hcl := cn_le (sb f) 32768
    refine am_run hX 3 _ _ _ _ ?_
    conv => whnf
    refine ⟨fun c => absurd c (nI_ge (a := b) (b := 64) (by omega) (by decide)), fun _ => ?_⟩
    refine am_run hX 4 _ _ _ _ ?_
    conv => whnf
    rw [lg_0]
    refine ⟨fun hl => ?_, fun hl => ?_⟩
    · refine am_run hX 2 _ _ _ _ ?_
      conv => whnf
      refine ⟨trivial, hP f h k (KS_D k1 (fun x _ q => q.elim) (fun x _ q => ?_)) k2 k3⟩
      have h0 := (l_0.mp hl) (x % 64 - b)
      rw [k4, show b + (x % 64 - b) = x % 64 by have := q.2.1; omega, q.2.2] at h0
      cases h0
    · have hnext : ∀ f h k, KS n g0 f h (fun x => x / 64 = w ∧ b + 1 ≤ x % 64 ∧ l0.toBitVec.getLsbD (x % 64) = true) → cn (sb f) 32768 = c0 + k → (k = 0 → ∀ x, x < 32768 → sb h x = sb hs x) → ∀ l7, X 86 [some (aR 70), some (aI (nI n)), some (aI (nI w)), some (aI (nI k)), some (aJ l), none, some (aI (nI b)), l7] [] (mm_l (mm_l M 79 f) 80 h) := fun f h k k1 k2 k3 l7 => by
        refine am_run hX 6 _ _ _ _ ?_
        conv => whnf
        rw [nI_1]
        exact ih (b + 1) (by omega) f h k _ k1 k2 k3 (LB_s k4) l7
      refine am_run hX 2 _ _ _ _ ?_
      conv => whnf
      by_cases h1 : l &&& 1 = 0
      · have hbit : l0.toBitVec.getLsbD b = false := by
          have := l_1.mp h1
          rw [k4] at this
          exact this
        refine am_run hX 3 _ _ _ _ ?_
        conv => whnf
        refine ⟨fun c => absurd c (nI_ge (a := 0) (b := n) (by omega) (by omega)), fun _ => ?_⟩
        refine am_run hX 6 _ _ _ _ ?_
        conv => whnf
        rw [lg_0]
        refine ⟨fun _ => ?_, fun c => absurd h1 c⟩
        refine hnext f h k (KS_D k1 (fun x _ q => ⟨q.1, by have := q.2.1; omega, q.2.2⟩) (fun x _ q => Or.inl ⟨q.1, ?_, q.2.2⟩)) k2 k3 _
        have hne : ¬ x % 64 = b := fun e => by
          have := q.2.2
          rw [e, hbit] at this
          cases this
        have := q.2.1
        omega
      · have hbit : l0.toBitVec.getLsbD b = true := by
          have h2 : ¬ l.toBitVec.getLsbD 0 = false := fun q => h1 (l_1.mpr q)
          rw [k4] at h2
          simpa using h2
        refine sp_l2 (hs := hs) (c0 := c0) hX hn1 hn hw (by omega) h1 (D := fun x => x / 64 = w ∧ b ≤ x % 64 ∧ l0.toBitVec.getLsbD (x % 64) = true) ⟨by omega, by omega, by rw [show (64 * w + b) % 64 = b by omega]; exact hbit⟩ (fun f h k k1 k2 k3 k5 l7 => ?_) n 0 (by omega) f h k k1 k2 k3 (fun q hq => by omega)
        refine hnext f h k (KS_D k1 (fun x _ q => ⟨q.1, by have := q.2.1; omega, q.2.2⟩) (fun x _ q => ?_)) k2 k3 _
        by_cases e : x % 64 = b
        · refine Or.inr fun p hp => ?_
          rw [show x = 64 * w + b by have := q.1; omega]
          exact k5 p hp
        · exact Or.inl ⟨q.1, by have := q.2.1; omega, q.2.2⟩
theorem sb_cl (h : Nat → Int64) (w x : Nat) : sb (vp_updL h w 0) x = (sb h x && !(x / 64 == w)) := by
  unfold sb vp_updL
  by_cases e : x / 64 = w
  · rw [if_pos e]
    simp [e]
  · rw [if_neg e]
    simp [e]
set_option maxRecDepth 100000 in
theorem ct_spread {f h : Nat → Int64} (hn1 : 1 ≤ n) (hn : n ≤ 6) (hw : w < 512) (hk : KS n g0 f h (fun _ => False)) : am_M (d + 3) false nm_X7_spreadKin [aR 70, aI (nI n), aI (nI w)] (mm_l (mm_l M 79 f) 80 h) (fun r M' => ∃ f' h' k, M' = mm_l (mm_l M 79 f') 80 h' ∧ r = .inl (some (aI (nI k))) ∧ KS n g0 f' h' (fun _ => False) ∧ cn (sb f') 32768 = cn (sb f) 32768 + k ∧ (k = 0 → ∀ x, x < 32768 → sb h' x = (sb h x && !(x / 64 == w)))) := by
  refine ⟨rfl, rfl, rfl, fun X hX => am_run hX 14 _ _ _ _ ?_⟩
  conv => whnf
  refine ⟨vp_in_nI (by show _ < 512; omega) (by decide), ?_⟩
  conv => whnf
  refine ⟨vp_in_nI (by show _ < 512; omega) (by decide), ?_⟩
  conv => whnf
  rw [nI_clamp (n := w) (by omega), mm_l2, mm_ll]
  refine sp_l1 (g0 := g0) (hs := vp_updL h w 0) (c0 := cn (sb f) 32768) (l0 := h w) hX hn1 hn hw (fun f' h' k k1 k2 k3 => ⟨f', h', k, rfl, rfl, k1, k2, fun e x hx => by rw [k3 e x hx, sb_cl]⟩) 64 0 (by omega) f (vp_updL h w 0) 0 (h w) ?_ (by omega) (fun _ _ _ => rfl) (fun i => by rw [Nat.zero_add]) _
  obtain ⟨k1, k2, k3, k4, k5⟩ := hk
  refine ⟨k1, k2, fun x hx q => ?_, fun x hx q => ?_, fun x hx q => ?_⟩
  · rw [sb_cl] at q
    exact k3 x hx ((Bool.and_eq_true _ _).mp q).1
  · refine k3 x hx ?_
    unfold sb
    rw [q.1]
    exact q.2.2
  · rcases k5 x hx q with q | q | q
    · exact q.elim
    · by_cases e : x / 64 = w
      · left
        refine ⟨e, Nat.zero_le _, ?_⟩
        unfold sb at q
        rw [e] at q
        exact q
      · right; left
        rw [sb_cl, q]
        simp [e]
    · exact Or.inr (Or.inr q)
end KNS
