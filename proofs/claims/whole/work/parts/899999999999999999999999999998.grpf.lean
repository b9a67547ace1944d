/-! group: the class makes its rows straight -/
/-- row k is taken off all others that have a 1 at c -/
def elR (S : Nat → Nat) (c k : Nat) : Nat → Nat := fun i => if i ≠ k ∧ (S i).testBit c = true then S i ^^^ S k else S i
/-- rows k and p change places -/
def swN (R : Nat → Nat) (k p : Nat) : Nat → Nat := fun i => if i = k then R p else if i = p then R k else R i
theorem el_k (S : Nat → Nat) (c k : Nat) : elR S c k k = S k := if_neg (fun q => q.1 rfl)
theorem el_sp {S : Nat → Nat} {c k r : Nat} (hk : k < r) : (∀ i, i < r → Spn S r (elR S c k i)) ∧ ∀ i, i < r → Spn (elR S c k) r (S i) := by
  constructor
  · intro i hi
    unfold elR
    split
    · exact Spn_x (Spn_m hi) (Spn_m hk)
    · exact Spn_m hi
  · intro i hi
    have hkk : Spn (elR S c k) r (S k) := by
      have := Spn_m (V := elR S c k) hk
      rw [el_k] at this
      exact this
    by_cases q : i ≠ k ∧ (S i).testBit c = true
    · have e : elR S c k i = S i ^^^ S k := if_pos q
      have := Spn_x (Spn_m (V := elR S c k) hi) hkk
      rw [e, Nat.xor_assoc, Nat.xor_self, Nat.xor_zero] at this
      exact this
    · have e : elR S c k i = S i := if_neg q
      rw [← e]
      exact Spn_m hi
theorem sw_sp {R : Nat → Nat} {k p r : Nat} (hk : k < r) (hp : p < r) : (∀ i, i < r → Spn R r (swN R k p i)) ∧ ∀ i, i < r → Spn (swN R k p) r (R i) := by
  constructor
  · intro i hi
    unfold swN
    split
    · exact Spn_m hp
    · split
      · exact Spn_m hk
      · exact Spn_m hi
  · intro i hi
    by_cases e1 : i = k
    · subst e1
      have e : swN R i p p = R i := by
        unfold swN
        by_cases q : p = i
        · rw [if_pos q, q]
        · rw [if_neg q, if_pos rfl]
      rw [← e]
      exact Spn_m hp
    · by_cases e2 : i = p
      · subst e2
        have e : swN R k i k = R i := if_pos rfl
        rw [← e]
        exact Spn_m hk
      · have e : swN R k p i = R i := by
          unfold swN
          rw [if_neg e1, if_neg e2]
        rw [← e]
        exact Spn_m hi
/-- straight up to column c, k rows -/
def stI (w : Nat) (A R : Nat → Nat) (r c k : Nat) : Prop := k ≤ r ∧ (∀ i, i < r → Spn A r (R i)) ∧ (∀ i, i < r → Spn R r (A i)) ∧ (∀ i, i < r → R i < 2 ^ (2 * w)) ∧ (∀ i, i < k → R i ≠ 0 ∧ rdP (R i) < c) ∧ (∀ i j, i < j → j < k → rdP (R i) < rdP (R j)) ∧ (∀ i j, i < r → j < k → i ≠ j → (R i).testBit (rdP (R j)) = false) ∧ ∀ i, k ≤ i → i < r → ∀ b, b < c → (R i).testBit b = false
theorem st_no {w r c k : Nat} {A R : Nat → Nat} (h : stI w A R r c k) (hno : ∀ i, k ≤ i → i < r → (R i).testBit c = false) : stI w A R r (c + 1) k := by
  obtain ⟨h1, h2, h3, h4, h5, h6, h7, h8⟩ := h
  refine ⟨h1, h2, h3, h4, fun i hi => ⟨(h5 i hi).1, by have := (h5 i hi).2; omega⟩, h6, h7, fun i a b e he => ?_⟩
  by_cases q : e = c
  · subst q
    exact hno i a b
  · exact h8 i a b e (by omega)
theorem st_ye {w r c k p : Nat} {A R : Nat → Nat} (w8 : w ≤ 8) (h : stI w A R r c k) (hkp : k ≤ p) (hp : p < r) (hb : (R p).testBit c = true) : stI w A (elR (swN R k p) c k) r (c + 1) (k + 1) := by
  obtain ⟨h1, h2, h3, h4, h5, h6, h7, h8⟩ := h
  have hk : k < r := by omega
  have h16 := pw16g w8
  have hl : ∀ i, i < r → R i < 65536 := fun i hi => Nat.lt_of_lt_of_le (h4 i hi) h16
  have s0 : swN R k p k = R p := if_pos rfl
  have s1 : ∀ i, i < k → swN R k p i = R i := fun i hi => by
    unfold swN
    rw [if_neg (by omega), if_neg (by omega)]
  have s2 : ∀ i, k < i → i < r → ∃ i', k ≤ i' ∧ i' < r ∧ swN R k p i = R i' := fun i a b => by
    unfold swN
    rw [if_neg (by omega)]
    by_cases q : i = p
    · rw [if_pos q]
      exact ⟨k, Nat.le_refl _, hk, rfl⟩
    · rw [if_neg q]
      exact ⟨i, by omega, b, rfl⟩
  -- the row itself
  have hrow : ∀ b, b < c → (R p).testBit b = false := h8 p hkp hp
  have hrp : rdP (R p) = c := rdP_u (hl p hp) hb hrow
  have ek : elR (swN R k p) c k k = R p := by rw [el_k, s0]
  -- bits below c stay
  have hlow : ∀ i, i < r → i ≠ k → ∀ b, b < c → (elR (swN R k p) c k i).testBit b = (swN R k p i).testBit b := by
    intro i hi hik b hbc
    unfold elR
    split
    · rw [s0, Nat.testBit_xor, hrow b hbc, Bool.xor_false]
    · rfl
  have hpiv : ∀ i, i < k → rdP (elR (swN R k p) c k i) = rdP (R i) := by
    intro i hi
    obtain ⟨n0, pc0⟩ := h5 i hi
    obtain ⟨t1, t2, t3⟩ := rdP_t (hl i (by omega)) n0
    have hlt : elR (swN R k p) c k i < 65536 := by
      unfold elR
      split
      · rw [s1 i hi, s0]
        exact Nat.xor_lt_two_pow (n := 16) (hl i (by omega)) (hl p hp)
      · rw [s1 i hi]
        exact hl i (by omega)
    refine rdP_u hlt ?_ (fun b hb => ?_)
    · rw [hlow i (by omega) (by omega) _ pc0, s1 i hi]
      exact t1
    · rw [hlow i (by omega) (by omega) b (by omega), s1 i hi]
      exact t3 b hb
  have esp := el_sp (S := swN R k p) (c := c) (k := k) (r := r) hk
  have wsp := sw_sp (R := R) (k := k) (p := p) (r := r) hk hp
  refine ⟨by omega, fun i hi => ?_, fun i hi => ?_, fun i hi => ?_, fun i hi => ?_, fun i j hij hj => ?_, fun i j hi hj hij => ?_, fun i hki hi b hbc => ?_⟩
  · exact sp_sub (fun a ha => sp_sub (fun a' ha' => h2 a' ha') (wsp.1 a ha)) (esp.1 i hi)
  · exact sp_sub (fun a ha => sp_sub (fun a' ha' => esp.2 a' ha') (wsp.2 a ha)) (h3 i hi)
  · have hs : ∀ a, a < r → swN R k p a < 2 ^ (2 * w) := fun a ha => by
      unfold swN
      split
      · exact h4 p hp
      · split
        · exact h4 k hk
        · exact h4 a ha
    unfold elR
    split
    · exact Nat.xor_lt_two_pow (hs i hi) (hs k hk)
    · exact hs i hi
  · by_cases q : i = k
    · subst q
      rw [ek, hrp]
      refine ⟨fun e => ?_, by omega⟩
      rw [e, Nat.zero_testBit] at hb
      cases hb
    · have hik : i < k := by omega
      refine ⟨fun e => ?_, ?_⟩
      · obtain ⟨n0, pc0⟩ := h5 i hik
        have t1 := (rdP_t (hl i (by omega)) n0).1
        have := hlow i (by omega) q _ pc0
        rw [e, Nat.zero_testBit, s1 i hik, t1] at this
        cases this
      · rw [hpiv i hik]
        have := (h5 i hik).2
        omega
  · rw [hpiv i (by omega)]
    by_cases q : j = k
    · subst q
      rw [ek, hrp]
      exact (h5 i hij).2
    · rw [hpiv j (by omega)]
      exact h6 i j hij (by omega)
  · by_cases q : j = k
    · subst q
      rw [ek, hrp]
      by_cases c1 : (swN R j p i).testBit c = true
      · have e : elR (swN R j p) c j i = swN R j p i ^^^ swN R j p j := if_pos ⟨hij, c1⟩
        rw [e, s0, Nat.testBit_xor, c1, hb]
        rfl
      · have e : elR (swN R j p) c j i = swN R j p i := if_neg (fun z => c1 z.2)
        rw [e]
        exact Bool.eq_false_iff.mpr c1
    · have hjk : j < k := by omega
      rw [hpiv j hjk]
      by_cases q2 : i = k
      · subst q2
        rw [ek]
        exact h7 p j hp hjk (by omega)
      · rw [hlow i hi q2 _ (h5 j hjk).2]
        rcases Nat.lt_or_ge i k with y | y
        · rw [s1 i y]
          exact h7 i j hi hjk hij
        · obtain ⟨i', a1, a2, a3⟩ := s2 i (by omega) hi
          rw [a3]
          exact h7 i' j a2 hjk (by omega)
  · by_cases q : b = c
    · subst q
      by_cases c1 : (swN R k p i).testBit b = true
      · have e : elR (swN R k p) b k i = swN R k p i ^^^ swN R k p k := if_pos ⟨by omega, c1⟩
        rw [e, s0, Nat.testBit_xor, c1, hb]
        rfl
      · have e : elR (swN R k p) b k i = swN R k p i := if_neg (fun z => c1 z.2)
        rw [e]
        exact Bool.eq_false_iff.mpr c1
    · rw [hlow i hi (by omega) b (by omega)]
      obtain ⟨i', a1, a2, a3⟩ := s2 i (by omega) hi
      rw [a3]
      exact h8 i' a1 a2 b (by omega)
/-- at the end all rows are reduced -/
theorem st_end {w r c k : Nat} {A R : Nat → Nat} (w8 : w ≤ 8) (hA : tri A r) (h : stI w A R r c k) (he : 2 * w ≤ c ∨ r ≤ k) : rrf R r ∧ ∀ v, Spn R r v ↔ Spn A r v := by
  obtain ⟨h1, h2, h3, h4, h5, h6, h7, h8⟩ := h
  have h16 := pw16g w8
  have hkr : k = r := by
    rcases he with he | he
    · refine rr_n (A := A) (B := R) hA h1 (fun v hv => ?_)
      refine sp_sub (fun i hi => ?_) (sp_sub (fun i hi => h3 i hi) hv)
      rcases Nat.lt_or_ge i k with q | q
      · exact Spn_m q
      · have : R i = 0 := by
          apply Nat.eq_of_testBit_eq
          intro b
          rw [Nat.zero_testBit]
          rcases Nat.lt_or_ge b c with y | y
          · exact h8 i q hi b y
          · exact Nat.testBit_lt_two_pow (Nat.lt_of_lt_of_le (h4 i hi) (Nat.pow_le_pow_right (by decide) (by omega)))
        rw [this]
        exact Spn_0 R k
    · omega
  subst hkr
  exact ⟨⟨fun i hi => ⟨Nat.lt_of_lt_of_le (h4 i hi) h16, (h5 i hi).1⟩, h6, h7⟩, fun v => ⟨fun hv => sp_sub h2 hv, fun hv => sp_sub h3 hv⟩⟩
theorem tb_d (n c : Nat) : n.testBit c = true ↔ n / 2 ^ c % 2 = 1 := by
  rw [Nat.testBit_eq_decide_div_mod_eq, decide_eq_true_eq]
section GPF
variable {d : Nat} {M : mm_M} {w : Nat}
/-- the rows of the class as one row of cells -/
def rwM (M : mm_M) (R : Nat → Nat) (r : Nat) : mm_M := mm_i M 21 (fun i => if i < r then nI (R i) else M.1 21 i)
theorem rwM_0 {R : Nat → Nat} {r : Nat} (h : gcR M R r) : rwM M R r = M := by
  unfold rwM
  rw [show (fun i => if i < r then nI (R i) else M.1 21 i) = M.1 21 from funext fun i => by
    split
    · exact (h.2 i (by assumption)).symm
    · rfl]
  exact mm_iz M 21
theorem rwM_u {R : Nat → Nat} {r i v : Nat} (hi : i < r) : mm_i (rwM M R r) 21 (upd ((rwM M R r).1 21) i (nI v)) = rwM M (fun j => if j = i then v else R j) r := by
  unfold rwM
  rw [mm_i1, mm_ii]
  congr 1
  funext j
  show (if j = i then nI v else (if j < r then nI (R j) else M.1 21 j)) = if j < r then nI (if j = i then v else R j) else M.1 21 j
  by_cases q : j = i
  · rw [if_pos q, if_pos (by omega), if_pos q]
  · rw [if_neg q, if_neg q]
theorem rwM_e {R R' : Nat → Nat} {r : Nat} (h : ∀ i, i < r → R i = R' i) : rwM M R r = rwM M R' r := by
  unfold rwM
  congr 1
  funext i
  by_cases y : i < r
  · rw [if_pos y, if_pos y, h i y]
  · rw [if_neg y, if_neg y]
theorem rwM_21 {R : Nat → Nat} {r i : Nat} (hi : i < r) : (rwM M R r).1 21 i = nI (R i) := by
  unfold rwM
  rw [mm_i1]
  exact if_pos hi
/-- so many rows are done -/
def elN (S : Nat → Nat) (c k n : Nat) : Nat → Nat := fun i => if i < n then elR S c k i else S i
set_option maxRecDepth 100000 in
theorem ge_l {P : am_Q} {X : am_X} {S : Nat → Nat} {r c k : Nat} {l3 : Option am_V} (hX : am_K d false nm_X4_straighten P X) (h10 : M.1 17 10 = nI r) (hr : r ≤ 16) (hk : k < r) (hc : c < 16) (hS : ∀ i, i < r → S i < 65536) (hK : ∀ l5, X 144 [some (aR 17), some (aI (nI k)), some (aI (nI c)), l3, some (aI (nI (S k))), l5] [] (rwM M (elR S c k) r)) : ∀ (m i : Nat), i + m = r → X 93 [some (aR 17), some (aI (nI k)), some (aI (nI c)), l3, some (aI (nI (S k))), some (aI (nI i))] [] (rwM M (elN S c k i) r) := by
  have r10 : ∀ R, (rwM M R r).1 17 10 = nI r := fun R => h10
  intro m
  induction m with
  | zero =>
    intro i hi
    obtain rfl : i = r := by omega
    refine am_run hX 4 _ _ _ _ ?_
    conv => whnf
    rw [r10]
    refine ⟨fun _ => ?_, fun q => absurd (nI_le (Nat.le_refl _) (by omega)) q⟩
    have e : rwM M (elN S c k i) i = rwM M (elR S c k) i := rwM_e (fun j hj => if_pos hj)
    rw [e]
    exact hK _
  | succ m ih =>
    intro i hi
    have ih := ih (i + 1) (by omega)
    have hil : i < r := by omega
    have e21 : (rwM M (elN S c k i) r).1 21 i = nI (S i) := by
      rw [rwM_21 hil, show elN S c k i i = S i from if_neg (Nat.lt_irrefl _)]
    have hnx : ∀ v, v = elR S c k i → mm_i (rwM M (elN S c k i) r) 21 (upd ((rwM M (elN S c k i) r).1 21) i (nI v)) = rwM M (elN S c k (i + 1)) r := by
      intro v hv
      rw [rwM_u hil]
      refine rwM_e (fun j hj => ?_)
      unfold elN
      by_cases q : j = i
      · rw [if_pos q, q, if_pos (by omega), hv]
      · rw [if_neg q]
        by_cases y : j < i
        · rw [if_pos y, if_pos (by omega)]
        · rw [if_neg y, if_neg (by omega)]
    refine am_run hX 4 _ _ _ _ ?_
    conv => whnf
    rw [r10]
    refine ⟨fun q => absurd q (nI_ge (by omega) (by omega)), fun _ => ?_⟩
    refine am_run hX 8 _ _ _ _ ?_
    conv => whnf
    refine ⟨vp_in_nI (by show i < 16; omega) (by decide), ?_⟩
    conv => whnf
    rw [nI_clamp (n := i) (by omega), e21]
    -- nothing is taken off
    have h0 : elR S c k i = S i → X 135 [some (aR 17), some (aI (nI k)), some (aI (nI c)), l3, some (aI (nI (S k))), some (aI (nI i))] [aI (nI (S i)), aI (nI i), aR 21] (rwM M (elN S c k i) r) := by
      intro e
      refine am_run hX 5 _ _ _ _ ?_
      conv => whnf
      refine ⟨vp_in_nI (by show i < 16; omega) (by decide), ?_⟩
      conv => whnf
      rw [nI_clamp (n := i) (by omega), show (0 : Int32) = nI 0 from rfl, nI_xor, Nat.xor_zero, hnx _ e.symm, nI_1]
      exact ih
    rw [nI_eq (by omega) (by omega)]
    refine ⟨fun q => ?_, fun q => ?_⟩
    · exact h0 (if_neg (fun z => z.1 q))
    · refine am_run hX 9 _ _ _ _ ?_
      conv => whnf
      refine ⟨vp_in_nI (by show i < 16; omega) (by decide), ?_⟩
      conv => whnf
      rw [nI_clamp (n := i) (by omega), e21, nI_sh (by have := hS i hil; omega) c (by omega), nI_m1, show (0 : Int32) = nI 0 from rfl, nI_eq (by omega) (by decide)]
      refine ⟨fun y => ?_, fun y => ?_⟩
      · exact h0 (if_neg (fun z => by have := (tb_d _ _).mp z.2; omega))
      · have e : elR S c k i = S i ^^^ S k := if_pos ⟨q, (tb_d _ _).mpr (by omega)⟩
        refine am_run hX 6 _ _ _ _ ?_
        conv => whnf
        refine ⟨vp_in_nI (by show i < 16; omega) (by decide), ?_⟩
        conv => whnf
        rw [nI_clamp (n := i) (by omega), nI_xor, hnx _ e.symm, nI_1]
        exact ih
set_option maxRecDepth 100000 in
theorem gs_p {P : am_Q} {X : am_X} {R : Nat → Nat} {r c k : Nat} {l4 l5 : Option am_V} (hX : am_K d false nm_X4_straighten P X) (h10 : M.1 17 10 = nI r) (hr : r ≤ 16) (hc : c < 16) (hS : ∀ i, i < r → R i < 65536) (hK : ∀ p, k ≤ p → p ≤ r → (∀ i, k ≤ i → i < p → (R i).testBit c = false) → (p < r → (R p).testBit c = true) → X 51 [some (aR 17), some (aI (nI k)), some (aI (nI c)), some (aI (nI p)), l4, l5] [] (rwM M R r)) : ∀ (m p : Nat), p + m = r → k ≤ p → (∀ i, k ≤ i → i < p → (R i).testBit c = false) → X 24 [some (aR 17), some (aI (nI k)), some (aI (nI c)), some (aI (nI p)), l4, l5] [] (rwM M R r) := by
  have r10 : (rwM M R r).1 17 10 = nI r := h10
  intro m
  induction m with
  | zero =>
    intro p hp hkp hno
    obtain rfl : p = r := by omega
    refine am_run hX 4 _ _ _ _ ?_
    conv => whnf
    rw [r10]
    refine ⟨fun _ => ?_, fun q => absurd (nI_le (Nat.le_refl _) (by omega)) q⟩
    exact hK p hkp (Nat.le_refl _) hno (fun q => absurd q (Nat.lt_irrefl _))
  | succ m ih =>
    intro p hp hkp hno
    have hpl : p < r := by omega
    refine am_run hX 4 _ _ _ _ ?_
    conv => whnf
    rw [r10]
    refine ⟨fun q => absurd q (nI_ge (by omega) (by omega)), fun _ => ?_⟩
    refine am_run hX 9 _ _ _ _ ?_
    conv => whnf
    refine ⟨vp_in_nI (by show p < 16; omega) (by decide), ?_⟩
    conv => whnf
    rw [nI_clamp (n := p) (by omega), rwM_21 hpl, nI_sh (by have := hS p hpl; omega) c (by omega), nI_m1, show (0 : Int32) = nI 0 from rfl, nI_eq (by omega) (by decide)]
    refine ⟨fun y => ?_, fun y => ?_⟩
    · exact hK p hkp (by omega) hno (fun _ => (tb_d _ _).mpr (by omega))
    · refine am_run hX 2 _ _ _ _ ?_
      conv => whnf
      rw [nI_1]
      refine ih (p + 1) (by omega) (by omega) (fun i a b => ?_)
      by_cases q : i = p
      · subst q
        exact Bool.eq_false_iff.mpr (fun z => by have := (tb_d _ _).mp z; omega)
      · exact hno i a (by omega)
set_option maxRecDepth 100000 in
theorem gs_c {P : am_Q} {X : am_X} {A : Nat → Nat} {r : Nat} (hX : am_K d false nm_X4_straighten P X) (w8 : w ≤ 8) (h6 : M.1 17 6 = nI w) (h10 : M.1 17 10 = nI r) (hA : tri A r) (hK : ∀ R, rrf R r → (∀ v, Spn R r v ↔ Spn A r v) → P (.inl none) (rwM M R r)) : ∀ (m c k : Nat) (R : Nat → Nat) (l3 l4 l5 : Option am_V), c + m = 2 * w → stI w A R r c k → X 4 [some (aR 17), some (aI (nI k)), some (aI (nI c)), l3, l4, l5] [] (rwM M R r) := by
  have r16 := tr_16 hA
  have h16 := pw16g w8
  intro m
  induction m with
  | zero =>
    intro c k R l3 l4 l5 hc hI
    obtain rfl : c = 2 * w := by omega
    have r6 : (rwM M R r).1 17 6 = nI w := h6
    refine am_run hX 7 _ _ _ _ ?_
    conv => whnf
    rw [r6, show (2 : Int32) = nI 2 from rfl, nI_mul]
    refine ⟨fun _ => ?_, fun q => absurd (nI_le (Nat.le_refl _) (by omega)) q⟩
    conv => whnf
    have := st_end w8 hA hI (Or.inl (Nat.le_refl _))
    exact ⟨trivial, hK R this.1 this.2⟩
  | succ m ih =>
    intro c k R l3 l4 l5 hc hI
    have r6 : (rwM M R r).1 17 6 = nI w := h6
    have r10 : ∀ R, (rwM M R r).1 17 10 = nI r := fun R => h10
    have hkr := hI.1
    have hl : ∀ i, i < r → R i < 65536 := fun i hi => Nat.lt_of_lt_of_le (hI.2.2.2.1 i hi) h16
    refine am_run hX 6 _ _ _ _ ?_
    conv => whnf
    rw [r6, show (2 : Int32) = nI 2 from rfl, nI_mul]
    refine ⟨fun q => absurd q (nI_ge (by omega) (by omega)), fun _ => ?_⟩
    refine am_run hX 4 _ _ _ _ ?_
    conv => whnf
    rw [r10]
    refine ⟨fun q => ?_, fun q => ?_⟩
    · have hk : r ≤ k := by
        apply Classical.byContradiction
        intro y
        exact absurd q (nI_ge (by omega) (by omega))
      refine am_run hX 1 _ _ _ _ ?_
      conv => whnf
      have := st_end w8 hA hI (Or.inr hk)
      exact ⟨trivial, hK R this.1 this.2⟩
    · have hk : k < r := by
        apply Classical.byContradiction
        intro y
        exact q (nI_le (by omega) (by omega))
      refine am_run hX 2 _ _ _ _ ?_
      conv => whnf
      refine gs_p hX h10 r16 (by omega) hl (fun p hkp hpr hno hye => ?_) (r - k) k (by omega) (Nat.le_refl _) (fun i a b => by omega)
      refine am_run hX 4 _ _ _ _ ?_
      conv => whnf
      rw [r10, nI_eq (by omega) (by omega)]
      refine ⟨fun y => ?_, fun y => ?_⟩
      · have hp : p < r := by omega
        have hb := hye hp
        refine am_run hX 20 _ _ _ _ ?_
        conv => whnf
        refine ⟨vp_in_nI (by show p < 16; omega) (by decide), ?_⟩
        conv => whnf
        refine ⟨vp_in_nI (by show k < 16; omega) (by decide), ?_⟩
        conv => whnf
        refine ⟨vp_in_nI (by show p < 16; omega) (by decide), ?_⟩
        conv => whnf
        refine ⟨vp_in_nI (by show k < 16; omega) (by decide), ?_⟩
        conv => whnf
        rw [nI_clamp (n := p) (by omega), nI_clamp (n := k) (by omega), rwM_21 hp, rwM_21 hk, rwM_u hp, rwM_u hk]
        have esw : rwM M (fun j => if j = k then R p else (fun j => if j = p then R k else R j) j) r = rwM M (elN (swN R k p) c k 0) r := rwM_e (fun j _ => rfl)
        rw [esw]
        have es : R p = swN R k p k := (if_pos rfl).symm
        rw [es]
        refine ge_l (S := swN R k p) hX h10 r16 hk (by omega) (fun i hi => ?_) (fun l5 => ?_) r 0 (by omega)
        · unfold swN
          split
          · exact hl p hp
          · split
            · exact hl k hk
            · exact hl i hi
        · refine am_run hX 3 _ _ _ _ ?_
          conv => whnf
          rw [nI_1, nI_1]
          exact ih (c + 1) (k + 1) _ _ _ _ (by omega) (st_ye w8 hI hkp hp hb)
      · obtain rfl : p = r := by omega
        refine am_run hX 3 _ _ _ _ ?_
        conv => whnf
        rw [nI_1]
        exact ih (c + 1) k R _ _ _ (by omega) (st_no hI hno)
set_option maxRecDepth 100000 in
theorem ct_strG {A : Nat → Nat} {r : Nat} (w8 : w ≤ 8) (h6 : M.1 17 6 = nI w) (hR : gcR M A r) (hA : tri A r) (hl : ∀ i, i < r → A i < 2 ^ (2 * w)) : am_M (d + 1) false nm_X4_straighten [aR 17] M (fun r1 N => r1 = .inl none ∧ ∃ R, N = rwM M R r ∧ rrf R r ∧ ∀ v, Spn R r v ↔ Spn A r v) := by
  refine ⟨rfl, rfl, rfl, fun X hX => am_run hX 4 _ _ _ _ ?_⟩
  conv => whnf
  have key := gs_c (d := d) (M := M) (w := w) hX w8 h6 hR.1 hA (fun R a b => ⟨rfl, R, rfl, a, b⟩) (2 * w) 0 0 A none none none (by omega) ⟨Nat.zero_le _, fun i hi => Spn_m hi, fun i hi => Spn_m hi, hl, fun i hi => absurd hi (Nat.not_lt_zero _), fun i j _ hj => absurd hj (Nat.not_lt_zero _), fun i j _ hj => absurd hj (Nat.not_lt_zero _), fun i _ _ b hb => absurd hb (Nat.not_lt_zero _)⟩
  rw [rwM_0 hR] at key
  exact key
end GPF
