/-! SHORTEST: the reference's table of keys, and where it looks for one -/
def bkN (t : Nat) : Nat := (t ^^^ t / 2 ^ 7 ^^^ t / 2 ^ 13) % 32768
def czB (B : Nat → Nat) : Nat → Nat
  | 0 => 0
  | m + 1 => czB B m + (if B m = 0 then 0 else 1)
theorem cz_e {B : Nat → Nat} : ∀ m, (∀ b, b < m → B b ≠ 0) → czB B m = m
  | 0, _ => rfl
  | m + 1, h => by
    show czB B m + (if B m = 0 then 0 else 1) = m + 1
    rw [cz_e m (fun b hb => h b (by omega)), if_neg (h m (by omega))]
theorem cz_n {B C : Nat → Nat} : ∀ m, (∀ b, b < m → B b = C b) → czB B m = czB C m
  | 0, _ => rfl
  | m + 1, h => by
    show czB B m + (if B m = 0 then 0 else 1) = czB C m + (if C m = 0 then 0 else 1)
    rw [cz_n m (fun b hb => h b (by omega)), h m (by omega)]
theorem cz_u {B C : Nat → Nat} {p : Nat} (h0 : B p = 0) (h1 : C p ≠ 0) (hr : ∀ b, b ≠ p → C b = B b) : ∀ m, p < m → czB C m = czB B m + 1
  | 0, hp => by omega
  | m + 1, hp => by
    show czB C m + (if C m = 0 then 0 else 1) = czB B m + (if B m = 0 then 0 else 1) + 1
    by_cases e : p = m
    · subst e
      rw [if_neg h1, if_pos h0, cz_n p (fun b hb => hr b (by omega))]
    · rw [cz_u h0 h1 hr m (by omega), hr m (fun z => e z.symm)]
      omega
theorem kK_i {k k' : K4} (h : k4 k) (h' : k4 k') (e : kK k = kK k') : k = k' := by
  have key : ∀ i, i < 4 → rwK k i = rwK k' i := fun i hi => by
    rw [← kV_e (rwK_l h) 4 hi, ← kV_e (rwK_l h') 4 hi]
    show kK k / _ % 32 = kK k' / _ % 32
    rw [e]
  have a := key 0 (by decide)
  have b := key 1 (by decide)
  have c := key 2 (by decide)
  have f := key 3 (by decide)
  obtain ⟨k1, k2, k3, k5⟩ := k
  obtain ⟨l1, l2, l3, l5⟩ := k'
  have a : k1 = l1 := a
  have b : k2 = l2 := b
  have c : k3 = l3 := c
  have f : k5 = l5 := f
  rw [a, b, c, f]
/-- n keys T, each to be found from its own bucket on before an empty one -/
def twT (N : mm_M) (n : Nat) (T : Nat → K4) (B : Nat → Nat) : Prop := N.1 108 49 = nI n ∧ n ≤ 11520 ∧ (∀ i, i < n → k4 (T i) ∧ N.1 136 i = nI (kK (T i))) ∧ (∀ b, b < 32768 → N.1 139 b = nI (B b) ∧ B b ≤ n) ∧ (∀ i, i < n → ∃ s, s < 32768 ∧ B ((bkN (kK (T i)) + s) % 32768) = i + 1 ∧ ∀ u, u < s → B ((bkN (kK (T i)) + u) % 32768) ≠ 0) ∧ czB B 32768 = n
theorem tw_em {N : mm_M} {n : Nat} {T : Nat → K4} {B : Nat → Nat} (h : twT N n T B) (a : Nat) : ∃ e, e < 32768 ∧ B ((a + e) % 32768) = 0 := by
  apply Classical.byContradiction
  intro z
  have hall : ∀ b, b < 32768 → B b ≠ 0 := fun b hb q => z ⟨(b + 32768 - a % 32768) % 32768, Nat.mod_lt _ (by decide), by
    rw [show (a + (b + 32768 - a % 32768) % 32768) % 32768 = b by omega]
    exact q⟩
  have := cz_e 32768 hall
  have h6 := h.2.2.2.2.2
  have h2 := h.2.1
  omega
section SHF
variable {d : Nat} {M : mm_M} {n : Nat} {T : Nat → K4} {B : Nat → Nat} {t : K4}
set_option maxRecDepth 100000 in
theorem ct_buk {k : Nat} (hk : k < 2 ^ 20) : am_M (d + 1) false nm_X12_bucketOf [aI (nI k)] M (am_q1 (aI (nI (bkN k))) M) := by
  refine ⟨rfl, rfl, rfl, fun X hX => am_run hX 12 _ _ _ _ ?_⟩
  conv => whnf
  refine ⟨trivial, ?_, rfl⟩
  have e : (nI k ^^^ nI k >>> ((7 : Int32) &&& 31) ^^^ nI k >>> ((13 : Int32) &&& 31)) &&& 32767 = nI (bkN k) := by
    rw [show (7 : Int32) = nI 7 from rfl, show (13 : Int32) = nI 13 from rfl, show (32767 : Int32) = nI 32767 from rfl, nI_sh (by omega) 7 (by decide), nI_sh (by omega) 13 (by decide), nI_xor, nI_xor, nI_and]
    congr 1
    exact Nat.and_two_pow_sub_one_eq_mod _ 15
  exact congrArg (fun v => Sum.inl (some (aI v))) e
theorem kK_l {k : K4} (h : k4 k) : kK k < 2 ^ 20 := kV_l (rwK_l h) 4
set_option maxRecDepth 100000 in
theorem ft_l {P : am_Q} {X : am_X} {e : Nat} (hX : am_K (d + 1) false nm_X12_findTwo P X) (h : twT M n T B) (ht : k4 t) (he : B ((bkN (kK t) + e) % 32768) = 0) (h1 : ∀ i, i < n → T i = t → P (.inl (some (aI (nI i)))) M) (h0 : (∀ i, i < n → T i ≠ t) → P (.inl (some (aI (-1)))) M) : ∀ (m s : Nat), s + m = e → (∀ u, u < s → B ((bkN (kK t) + u) % 32768) ≠ 0 ∧ T (B ((bkN (kK t) + u) % 32768) - 1) ≠ t) → X 5 [some (aR 108), some (aI (nI (kK t))), some (aI (nI ((bkN (kK t) + s) % 32768)))] [] M := by
  obtain ⟨t1, t2, t3, t4, t5, t6⟩ := h
  have hno : ∀ s, B ((bkN (kK t) + s) % 32768) = 0 → (∀ u, u < s → B ((bkN (kK t) + u) % 32768) ≠ 0 ∧ T (B ((bkN (kK t) + u) % 32768) - 1) ≠ t) → ∀ i, i < n → T i ≠ t := by
    intro s hs hu i hi q
    obtain ⟨v, _, v1, v2⟩ := t5 i hi
    rw [q] at v1 v2
    rcases Nat.lt_trichotomy v s with c | c | c
    · have := (hu v c).2
      rw [v1] at this
      exact this q
    · rw [c, hs] at v1
      omega
    · exact v2 s c hs
  intro m
  induction m with
  | zero =>
    intro s hs hu
    obtain rfl : s = e := by omega
    have hb : (bkN (kK t) + s) % 32768 < 32768 := Nat.mod_lt _ (by decide)
    have hc := (t4 _ hb).1
    rw [he] at hc
    refine am_run hX 5 _ _ _ _ ?_
    conv => whnf
    refine ⟨vp_in_nI hb (by decide), ?_⟩
    conv => whnf
    rw [nI_clamp (n := (bkN (kK t) + s) % 32768) (by omega), hc]
    refine ⟨fun _ => ?_, fun z => absurd rfl z⟩
    refine am_run hX 2 _ _ _ _ ?_
    conv => whnf
    exact ⟨trivial, h0 (hno s he hu)⟩
  | succ m ih =>
    intro s hs hu
    have hb : (bkN (kK t) + s) % 32768 < 32768 := Nat.mod_lt _ (by decide)
    obtain ⟨hc, hl⟩ := t4 _ hb
    refine am_run hX 5 _ _ _ _ ?_
    conv => whnf
    refine ⟨vp_in_nI hb (by decide), ?_⟩
    conv => whnf
    rw [nI_clamp (n := (bkN (kK t) + s) % 32768) (by omega), hc, show (0 : Int32) = nI 0 from rfl, nI_eq (by omega) (by decide)]
    refine ⟨fun z => ?_, fun z => ?_⟩
    · refine am_run hX 2 _ _ _ _ ?_
      conv => whnf
      exact ⟨trivial, h0 (hno s z hu)⟩
    · have hj : B ((bkN (kK t) + s) % 32768) - 1 < n := by omega
      obtain ⟨j1, j2⟩ := t3 _ hj
      refine am_run hX 11 _ _ _ _ ?_
      conv => whnf
      refine ⟨vp_in_nI hb (by decide), ?_⟩
      conv => whnf
      rw [nI_clamp (n := (bkN (kK t) + s) % 32768) (by omega), hc, nI_s1 _ (by omega)]
      refine ⟨vp_in_nI (by show _ < 11520; omega) (by decide), ?_⟩
      conv => whnf
      rw [nI_clamp (n := B ((bkN (kK t) + s) % 32768) - 1) (by omega), j2]
      have k1 := kK_l j1
      have k2 := kK_l ht
      refine ⟨fun q => ?_, fun q => ?_⟩
      · refine am_run hX 7 _ _ _ _ ?_
        conv => whnf
        rw [nI_1, show (32767 : Int32) = nI 32767 from rfl, nI_and, show ((bkN (kK t) + s) % 32768 + 1) &&& 32767 = (bkN (kK t) + (s + 1)) % 32768 from by
          rw [show 32767 = 2 ^ 15 - 1 from rfl, Nat.and_two_pow_sub_one_eq_mod]
          omega]
        refine ih (s + 1) (by omega) (fun u hu' => ?_)
        by_cases eu : u = s
        · subst eu
          exact ⟨z, fun y => q (by rw [y])⟩
        · exact hu u (by omega)
      · have q := kK_i j1 ht ((nI_eq (by omega) (by omega)).mp (Decidable.byContradiction q))
        refine am_run hX 7 _ _ _ _ ?_
        conv => whnf
        refine ⟨vp_in_nI hb (by decide), ?_⟩
        conv => whnf
        rw [nI_clamp (n := (bkN (kK t) + s) % 32768) (by omega), hc, nI_s1 _ (by omega)]
        exact ⟨trivial, h1 _ hj q⟩
set_option maxRecDepth 100000 in
theorem ct_fTwo (h : twT M n T B) (ht : k4 t) : am_M (d + 2) false nm_X12_findTwo [aR 108, aI (nI (kK t))] M (fun r N => N = M ∧ ((∃ i, i < n ∧ T i = t ∧ r = .inl (some (aI (nI i)))) ∨ ((∀ i, i < n → T i ≠ t) ∧ r = .inl (some (aI (-1)))))) := by
  obtain ⟨e, _, he⟩ := tw_em h (bkN (kK t))
  refine ⟨rfl, rfl, rfl, fun X hX => am_run hX 2 _ _ _ _ ?_⟩
  conv => whnf
  refine am_c1 (ct_buk (d := d) (kK_l ht)) ?_
  refine am_run hX 1 _ _ _ _ ?_
  conv => whnf
  have hb : bkN (kK t) < 32768 := Nat.mod_lt _ (by decide)
  have key := ft_l (d := d) (M := M) hX h ht he (fun i hi q => ⟨rfl, Or.inl ⟨i, hi, q, rfl⟩⟩) (fun q => ⟨rfl, Or.inr ⟨q, rfl⟩⟩) e 0 (by omega) (fun u hu => by omega)
  rw [Nat.add_zero, Nat.mod_eq_of_lt hb] at key
  exact key
end SHF
