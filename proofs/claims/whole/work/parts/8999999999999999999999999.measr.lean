/-! measure, the reference -/
def trF (M N : mm_M) : Prop := (∀ k, (k < 157 ∨ 159 < k) → N.1 k = M.1 k) ∧ N.2 = M.2
theorem trF_t {M N K : mm_M} (h : trF M N) (h' : trF N K) : trF M K := ⟨fun k a => (h'.1 k a).trans (h.1 k a), h'.2.trans h.2⟩
theorem trF_r (M : mm_M) : trF M M := ⟨fun _ _ => rfl, rfl⟩
section MSR
variable {d n w : Nat} {M : mm_M} {Y : Nat → RW}
theorem wB_F {i : Nat} {y : RW} : trF M (wB M i y) := by
  refine ⟨fun k hk => ?_, rfl⟩
  simp [wB, mm_i, show k ≠ 157 by omega, show k ≠ 158 by omega, show k ≠ 159 by omega]
theorem wB_ne {i j : Nat} {y z : RW} (h : j ≠ i) (hz : rB M j z) : rB (wB M i y) j z := by
  obtain ⟨a, b, c⟩ := hz
  refine ⟨?_, ?_, ?_⟩
  · show upd (M.1 157) i (nI y.1) j = nI z.1
    unfold upd
    rw [if_neg h]
    exact a
  · show upd (M.1 158) i (nI y.2.1) j = nI z.2.1
    unfold upd
    rw [if_neg h]
    exact b
  · show upd (M.1 159) i (nI y.2.2) j = nI z.2.2
    unfold upd
    rw [if_neg h]
    exact c
def fOf (x z n : Nat) : Nat := if lwF x n 0 < n then lwF x n 0 else n + lwF z n 0
set_option maxRecDepth 100000 in
theorem fo_2 {x z : Nat} {v0 : Int32} {Pp : am_Q} {X : am_X} (hX : am_K d false nm_X12_firstOf Pp X) (n20 : n ≤ 20) (hz : z < 2 ^ n) (hP : Pp (.inl (some (aI (nI (n + lwF z n 0))))) M) : ∀ m k, k + m = n → lwF z n 0 = lwF z m k → X 26 [some (aI v0), some (aI (nI z)), some (aI (nI n)), some (aI (nI k))] [] M := by
  have z20 := pwN20 n20 hz
  intro m
  induction m with
  | zero =>
    intro k hk e
    have hk : k = n := by omega
    subst hk
    have e : lwF z k 0 = k := e
    refine am_run hX 3 _ _ _ _ ?_
    conv => whnf
    refine ⟨fun _ => ?_, fun c => absurd (nI_le (by omega) (by omega)) c⟩
    refine am_run hX 4 _ _ _ _ ?_
    conv => whnf
    rw [e] at hP
    rw [show (2 : Int32) = nI 2 from rfl, nI_mul, show 2 * k = k + k by omega]
    exact ⟨trivial, hP⟩
  | succ m ih =>
    intro k hk e
    have e : lwF z n 0 = if z.testBit k = true then k else lwF z m (k + 1) := e
    refine am_run hX 3 _ _ _ _ ?_
    conv => whnf
    refine ⟨fun c => absurd c (nI_ge (by omega) (by omega)), fun _ => ?_⟩
    refine am_run hX 7 _ _ _ _ ?_
    conv => whnf
    rw [tb_i z20 (by omega)]
    by_cases c : z.testBit k = true
    · rw [if_pos c] at e ⊢
      refine ⟨fun q => absurd rfl q, fun _ => ?_⟩
      refine am_run hX 4 _ _ _ _ ?_
      conv => whnf
      rw [e] at hP
      rw [nI_add]
      exact ⟨trivial, hP⟩
    · rw [if_neg c] at e ⊢
      refine ⟨fun _ => ?_, fun q => absurd (by decide) q⟩
      refine am_run hX 2 _ _ _ _ ?_
      conv => whnf
      rw [nI_1]
      exact ih (k + 1) (by omega) e
set_option maxRecDepth 100000 in
theorem fo_1 {x z : Nat} {Pp : am_Q} {X : am_X} (hX : am_K d false nm_X12_firstOf Pp X) (n20 : n ≤ 20) (hx : x < 2 ^ n) (hz : z < 2 ^ n) (hP : Pp (.inl (some (aI (nI (fOf x z n))))) M) : ∀ m k, k + m = n → lwF x n 0 = lwF x m k → X 2 [some (aI (nI x)), some (aI (nI z)), some (aI (nI n)), some (aI (nI k))] [] M := by
  have x20 := pwN20 n20 hx
  intro m
  induction m with
  | zero =>
    intro k hk e
    have hk : k = n := by omega
    subst hk
    have e : lwF x k 0 = k := e
    have eF : fOf x z k = k + lwF z k 0 := if_neg (by omega)
    rw [eF] at hP
    refine am_run hX 3 _ _ _ _ ?_
    conv => whnf
    refine ⟨fun _ => ?_, fun c => absurd (nI_le (by omega) (by omega)) c⟩
    refine am_run hX 2 _ _ _ _ ?_
    conv => whnf
    exact fo_2 (x := x) hX n20 hz hP k 0 (by omega) rfl
  | succ m ih =>
    intro k hk e
    have e : lwF x n 0 = if x.testBit k = true then k else lwF x m (k + 1) := e
    refine am_run hX 3 _ _ _ _ ?_
    conv => whnf
    refine ⟨fun c => absurd c (nI_ge (by omega) (by omega)), fun _ => ?_⟩
    refine am_run hX 7 _ _ _ _ ?_
    conv => whnf
    rw [tb_i x20 (by omega)]
    by_cases c : x.testBit k = true
    · rw [if_pos c] at e ⊢
      refine ⟨fun q => absurd rfl q, fun _ => ?_⟩
      refine am_run hX 2 _ _ _ _ ?_
      conv => whnf
      have eF : fOf x z n = k := by
        unfold fOf
        rw [e, if_pos (by omega)]
      rw [eF] at hP
      exact ⟨trivial, hP⟩
    · rw [if_neg c] at e ⊢
      refine ⟨fun _ => ?_, fun q => absurd (by decide) q⟩
      refine am_run hX 2 _ _ _ _ ?_
      conv => whnf
      rw [nI_1]
      exact ih (k + 1) (by omega) e
set_option maxRecDepth 100000 in
theorem ct_fOf {x z : Nat} (n20 : n ≤ 20) (hx : x < 2 ^ n) (hz : z < 2 ^ n) : am_M (d + 1) false nm_X12_firstOf [aI (nI x), aI (nI z), aI (nI n)] M (am_q1 (aI (nI (fOf x z n))) M) := by
  refine ⟨rfl, rfl, rfl, fun X hX => am_run hX 2 _ _ _ _ ?_⟩
  conv => whnf
  exact fo_1 hX n20 hx hz ⟨rfl, rfl⟩ n 0 (by omega) rfl
theorem fOf_0 {z : Nat} : fOf 0 z n = n + lwF z n 0 := by
  obtain ⟨_, l2, _, l4⟩ := lwF_p 0 n 0
  unfold fOf
  refine if_neg fun c => ?_
  have := l4 (by omega)
  rw [Nat.zero_testBit] at this
  exact absurd this (by decide)
set_option maxRecDepth 100000 in
theorem mr_z {v2 v3 : Int32} {Pp : am_Q} {X : am_X} (hX : am_K (d + 1) false nm_X12_measure Pp X) (n20 : n ≤ 20) (hw : w < n) (h81 : M.1 108 81 = nI n) (hY : ∀ j, j < n → rw_n n (Y j) ∧ rB M j (Y j)) (hP : Pp (.inl (some (aI (nI (sgZ n w Y n).2)))) M) : ∀ m j l7, j + m = n → X 148 [some (aR 108), some (aI (nI w)), some (aI v2), some (aI v3), some (aI (nI (sgZ n w Y j).1)), some (aI (nI (sgZ n w Y j).2)), some (aI (nI j)), l7] [] M := by
  have B := sgZ_b (Y := Y) hw (fun j hj => (hY j hj).1)
  intro m
  induction m with
  | zero =>
    intro j l7 hj
    have hj : j = n := by omega
    subst hj
    refine am_run hX 4 _ _ _ _ ?_
    conv => whnf
    rw [h81]
    refine ⟨fun _ => ?_, fun c => absurd (nI_le (by omega) (by omega)) c⟩
    refine am_run hX 2 _ _ _ _ ?_
    conv => whnf
    exact ⟨trivial, hP⟩
  | succ m ih =>
    intro j l7 hj
    obtain ⟨rn, r1, r2, r3⟩ := hY j (by omega)
    have hJ : vp_in (nI j) 20 := vp_in_nI (by omega) (by decide)
    obtain ⟨b1, b2⟩ := B j (by omega)
    have b20 := pwN20 n20 b1
    have x20 := pwN20 n20 rn.1
    have e0 : sgZ n w Y (j + 1) = if (Y j).1 = 0 ∧ (sgZ n w Y j).1.testBit (lwF (Y j).2.1 n 0) = true then ((sgZ n w Y j).1 ^^^ (Y j).2.1, (sgZ n w Y j).2 ^^^ (Y j).2.2) else sgZ n w Y j := rfl
    have skip : ∀ v7, ¬ ((Y j).1 = 0 ∧ (sgZ n w Y j).1.testBit (lwF (Y j).2.1 n 0) = true) → X 232 [some (aR 108), some (aI (nI w)), some (aI v2), some (aI v3), some (aI (nI (sgZ n w Y j).1)), some (aI (nI (sgZ n w Y j).2)), some (aI (nI j)), some (aI v7)] [] M := fun v7 q => by
      refine am_run hX 2 _ _ _ _ ?_
      conv => whnf
      rw [nI_1]
      have := ih (j + 1) (some (aI v7)) (by omega)
      rw [e0, if_neg q] at this
      exact this
    refine am_run hX 4 _ _ _ _ ?_
    conv => whnf
    rw [h81]
    refine ⟨fun c => absurd c (nI_ge (by omega) (by omega)), fun _ => ?_⟩
    refine am_run hX 4 _ _ _ _ ?_
    conv => whnf
    refine ⟨hJ, ?_⟩
    conv => whnf
    refine am_run hX 4 _ _ _ _ ?_
    conv => whnf
    refine ⟨hJ, ?_⟩
    conv => whnf
    rw [nI_clamp (n := j) (by omega), r1, r2]
    refine am_run hX 3 _ _ _ _ ?_
    conv => whnf
    rw [h81]
    refine am_c1 (ct_fOf (d := d) n20 rn.1 rn.2.1) ?_
    conv => whnf
    refine am_run hX 6 _ _ _ _ ?_
    conv => whnf
    refine ⟨hJ, ?_⟩
    conv => whnf
    rw [nI_clamp (n := j) (by omega), r1]
    by_cases x0 : (Y j).1 = 0
    · refine ⟨fun z => absurd (by rw [x0]; rfl) z, fun _ => ?_⟩
      have l2 := (lwF_p (Y j).2.1 n 0).2.1
      refine am_run hX 9 _ _ _ _ ?_
      conv => whnf
      rw [h81, x0, fOf_0, nI_sub (by omega), show n + lwF (Y j).2.1 n 0 - n = lwF (Y j).2.1 n 0 by omega]
      have tb : nI (sgZ n w Y j).1 >>> (nI (lwF (Y j).2.1 n 0) &&& 31) &&& 1 = nI (if (sgZ n w Y j).1.testBit (lwF (Y j).2.1 n 0) = true then 1 else 0) := by
        rw [nI_sh (by omega) _ (by omega), nI_m1]
        have := bt_t (sgZ n w Y j).1 (lwF (Y j).2.1 n 0)
        unfold bt at this
        rw [this]
        cases (sgZ n w Y j).1.testBit (lwF (Y j).2.1 n 0) <;> rfl
      rw [tb]
      by_cases q : (sgZ n w Y j).1.testBit (lwF (Y j).2.1 n 0) = true
      · rw [if_pos q]
        refine ⟨fun _ => ?_, fun z => absurd (by decide) z⟩
        refine am_run hX 7 _ _ _ _ ?_
        conv => whnf
        refine ⟨hJ, ?_⟩
        conv => whnf
        rw [nI_clamp (n := j) (by omega), r2, nI_xor]
        refine am_run hX 7 _ _ _ _ ?_
        conv => whnf
        refine ⟨hJ, ?_⟩
        conv => whnf
        rw [nI_clamp (n := j) (by omega), r3, nI_xor]
        refine am_run hX 2 _ _ _ _ ?_
        conv => whnf
        rw [nI_1]
        have := ih (j + 1) (some (aI (nI (n + lwF (Y j).2.1 n 0)))) (by omega)
        rw [e0, if_pos ⟨x0, q⟩] at this
        exact this
      · rw [if_neg q]
        refine ⟨fun z => absurd rfl z, fun _ => ?_⟩
        refine am_run hX 1 _ _ _ _ ?_
        conv => whnf
        exact skip _ fun z => q z.2
    · exact ⟨fun _ => skip _ fun z => x0 z.1, fun z => absurd (fun y => x0 ((nI_eq (b := 0) (by omega) (by decide)).mp y)) z⟩
set_option maxRecDepth 100000 in
theorem mr_s {v2 : Int32} {i : Nat} {l4 l5 l6 l7 : Option am_V} {Pp : am_Q} {X : am_X} (hX : am_K d false nm_X12_measure Pp X) (n20 : n ≤ 20) (hw : w < n) (h81 : M.1 108 81 = nI n) (hY : ∀ j, j < n → rw_n n (Y j) ∧ rB M j (Y j)) (hi : i = n ∧ nxb n w Y ∨ fiR n w Y i) (hK : X 48 [some (aR 108), some (aI (nI w)), some (aI v2), some (aI (nI i)), l4, l5, l6, l7] [] M) : ∀ m j, j + m = i → X 21 [some (aR 108), some (aI (nI w)), some (aI v2), some (aI (nI j)), l4, l5, l6, l7] [] M := by
  have il : i ≤ n := by
    rcases hi with ⟨e, _⟩ | h
    · omega
    · have := h.1
      omega
  have no : ∀ j, j < i → (Y j).1.testBit w = false := fun j hj => by
    rcases hi with ⟨e, h⟩ | h
    · exact h j (by omega)
    · exact h.2.2 j hj
  intro m
  induction m with
  | zero =>
    intro j hj
    have hj : j = i := by omega
    subst hj
    refine am_run hX 4 _ _ _ _ ?_
    conv => whnf
    rw [h81]
    rcases hi with ⟨e, _⟩ | h
    · exact ⟨fun _ => hK, fun c => absurd (nI_le (by omega) (by omega)) c⟩
    · obtain ⟨rn, r1, _⟩ := hY j h.1
      have jl := h.1
      refine ⟨fun c => absurd c (nI_ge h.1 (by omega)), fun _ => ?_⟩
      refine am_run hX 9 _ _ _ _ ?_
      conv => whnf
      refine ⟨vp_in_nI (by show j < 20; omega) (by decide), ?_⟩
      conv => whnf
      rw [nI_clamp (n := j) (by omega), r1, tb_i (pwN20 n20 rn.1) (by omega), if_pos h.2.1]
      exact ⟨fun _ => hK, fun c => absurd (by decide) c⟩
  | succ m ih =>
    intro j hj
    obtain ⟨rn, r1, _⟩ := hY j (by omega)
    refine am_run hX 4 _ _ _ _ ?_
    conv => whnf
    rw [h81]
    refine ⟨fun c => absurd c (nI_ge (by omega) (by omega)), fun _ => ?_⟩
    refine am_run hX 9 _ _ _ _ ?_
    conv => whnf
    refine ⟨vp_in_nI (by show j < 20; omega) (by decide), ?_⟩
    conv => whnf
    rw [nI_clamp (n := j) (by omega), r1, tb_i (pwN20 n20 rn.1) (by omega), if_neg (by rw [no j (by omega)]; decide)]
    refine ⟨fun c => absurd rfl c, fun _ => ?_⟩
    refine am_run hX 2 _ _ _ _ ?_
    conv => whnf
    rw [nI_1]
    exact ih (j + 1) (by omega)
set_option maxRecDepth 100000 in
theorem mr_m {v2 : Int32} {i : Nat} {l5 l6 l7 : Option am_V} {Pp : am_Q} {X : am_X} (hX : am_K (d + 2) false nm_X12_measure Pp X) (n20 : n ≤ 20) (hw : w < n) (h81 : M.1 108 81 = nI n) (hY : ∀ j, j < n → rw_n n (Y j)) (cY : allc n Y) (hi : fiR n w Y i) (hK : ∀ N, trF M N → (∀ j, j < n → rB N j (mzK w i n mulA Y j)) → X 102 [some (aR 108), some (aI (nI w)), some (aI v2), some (aI (nI i)), some (aI (nI n)), l5, l6, l7] [] N) : ∀ m k N, k + m = n → trF M N → (∀ j, j < n → rB N j (mzK w i k mulA Y j)) → X 59 [some (aR 108), some (aI (nI w)), some (aI v2), some (aI (nI i)), some (aI (nI k)), l5, l6, l7] [] N := by
  have il := hi.1
  intro m
  induction m with
  | zero =>
    intro k N hk hf h
    have hk : k = n := by omega
    subst hk
    refine am_run hX 4 _ _ _ _ ?_
    conv => whnf
    rw [hf.1 108 (by decide), h81]
    exact ⟨fun _ => hK N hf h, fun c => absurd (nI_le (by omega) (by omega)) c⟩
  | succ m ih =>
    intro k N hk hf h
    have kn : k < n := by omega
    have rk := h k kn
    have ri := h i il
    have ek : mzK w i k mulA Y k = Y k := if_neg (by omega)
    have ei : mzK w i k mulA Y i = Y i := if_neg (by omega)
    rw [ek] at rk
    rw [ei] at ri
    have next : ∀ N', trF M N' → (∀ j, j < n → rB N' j (mzK w i (k + 1) mulA Y j)) → X 96 [some (aR 108), some (aI (nI w)), some (aI v2), some (aI (nI i)), some (aI (nI k)), l5, l6, l7] [] N' := fun N' f' h' => by
      refine am_run hX 2 _ _ _ _ ?_
      conv => whnf
      rw [nI_1]
      exact ih (k + 1) N' (by omega) f' h'
    have eo : ∀ j, j ≠ k → mzK w i (k + 1) mulA Y j = mzK w i k mulA Y j := fun j hj => by
      unfold mzK
      by_cases q : (Y j).1.testBit w = true ∧ j ≠ i ∧ j < k
      · rw [if_pos q, if_pos ⟨q.1, q.2.1, by omega⟩]
      · rw [if_neg q, if_neg fun z => q ⟨z.1, z.2.1, by omega⟩]
    have same : ¬ ((Y k).1.testBit w = true ∧ k ≠ i) → ∀ j, j < n → rB N j (mzK w i (k + 1) mulA Y j) := fun q j hj => by
      by_cases jk : j = k
      · rw [jk, show mzK w i (k + 1) mulA Y k = Y k from if_neg fun z => q ⟨z.1, z.2.1⟩]
        exact rk
      · rw [eo j jk]
        exact h j hj
    refine am_run hX 4 _ _ _ _ ?_
    conv => whnf
    rw [hf.1 108 (by decide), h81]
    refine ⟨fun c => absurd c (nI_ge (by omega) (by omega)), fun _ => ?_⟩
    refine am_run hX 3 _ _ _ _ ?_
    conv => whnf
    by_cases ki : k = i
    · exact ⟨fun _ => next N hf (same fun z => z.2 ki), fun z => absurd (by rw [ki]) z⟩
    refine ⟨fun z => absurd ((nI_eq (by omega) (by omega)).mp z) ki, fun _ => ?_⟩
    refine am_run hX 10 _ _ _ _ ?_
    conv => whnf
    refine ⟨vp_in_nI (by show k < 20; omega) (by decide), ?_⟩
    conv => whnf
    rw [nI_clamp (n := k) (by omega), rk.1, tb_i (pwN20 n20 (hY k kn).1) (by omega)]
    by_cases c : (Y k).1.testBit w = true
    · rw [if_pos c]
      refine ⟨fun z => absurd rfl z, fun _ => ?_⟩
      refine am_run hX 4 _ _ _ _ ?_
      conv => whnf
      refine am_c0 (ct_mulB (d := d) (M := N) (by omega) (by omega) n20 ((congrFun (hf.1 108 (by decide)) 81).trans h81) rk ri (rn_ok n20 (hY k kn)) (rn_ok n20 (hY i il))) ?_
      rw [← mul_eq (by omega) (hY k kn).1 (hY k kn).2.1 (hY i il).1 (hY k kn).2.2 (hY i il).2.2 (cY k i kn il)]
      conv => whnf
      refine next _ (trF_t hf wB_F) fun j hj => ?_
      by_cases jk : j = k
      · rw [jk, show mzK w i (k + 1) mulA Y k = mulA (Y k) (Y i) from if_pos ⟨c, ki, by omega⟩]
        exact rB_w
      · rw [eo j jk]
        exact wB_ne jk (h j hj)
    · rw [if_neg c]
      exact ⟨fun _ => next N hf (same fun z => c z.1), fun z => absurd (by decide) z⟩
end MSR
