/-! ROUTE: the class's map of the CHIP -/
theorem nI_Jg {n : Nat} (h : n < 2 ^ 31) : (nI n).toInt64 = nJ n := by
  apply Int64.toInt_inj.mp
  have h1 : (nI n).toInt = (n : Int) := Int32.toInt_ofNat_of_lt h
  have h2 : (nJ n).toInt = (n : Int) := Int64.toInt_ofNat_of_lt (by omega)
  rw [Int32.toInt_toInt64, h1, h2]
theorem nJ_or (a b : Nat) : nJ a ||| nJ b = nJ (a ||| b) := by
  apply Int64.toBitVec_inj.mp
  rw [Int64.toBitVec_or, nJ_b, nJ_b, nJ_b]
  apply BitVec.eq_of_getLsbD_eq
  intro i hi
  simp [BitVec.getLsbD_ofNat, hi]
theorem nJ_sr {n k : Nat} (h : n < 2 ^ 63) (hk : k < 64) : nJ n >>> ((nI k).toInt64 &&& 63) = nJ (n / 2 ^ k) := by
  have hs : ∀ k, k < 64 → (((nI k).toInt64 &&& 63).toBitVec.smod 64) = BitVec.ofNat 64 k := by decide +kernel
  apply Int64.toBitVec_inj.mp
  rw [nJ_b]
  apply BitVec.eq_of_getLsbD_eq
  intro i hi
  show (((nJ n).toBitVec.sshiftRight' (((nI k).toInt64 &&& 63).toBitVec.smod 64)).getLsbD i) = _
  rw [hs k hk, BitVec.sshiftRight', BitVec.toNat_ofNat, Nat.mod_eq_of_lt (by omega), BitVec.getLsbD_sshiftRight, nJ_b, BitVec.getLsbD_ofNat, BitVec.getLsbD_ofNat, Nat.testBit_div_two_pow, Nat.add_comm i k]
  have hm : (BitVec.ofNat 64 n).msb = false := by
    rw [BitVec.msb_eq_false_iff_two_mul_lt, BitVec.toNat_ofNat, Nat.mod_eq_of_lt (by omega)]
    omega
  by_cases c : k + i < 64
  · rw [if_pos c]
    simp [c, hi]
  · have : n.testBit (k + i) = false := Nat.testBit_lt_two_pow (Nat.lt_of_lt_of_le h (Nat.pow_le_pow_right (by decide) (by omega)))
    rw [if_neg c, hm, this]
    simp
/-- numbers of twelve bits, packed -/
def pkN (f : Nat → Nat) : Nat → Nat
  | 0 => 0
  | i + 1 => pkN f i + 2 ^ (12 * i) * f i
theorem pkN_l {f : Nat → Nat} (h : ∀ j, f j < 4096) : ∀ n, pkN f n < 2 ^ (12 * n)
  | 0 => Nat.one_pos
  | n + 1 => by
    have := pkN_l h n
    have h1 := h n
    have e : 2 ^ (12 * (n + 1)) = 2 ^ (12 * n) * 4096 := by rw [Nat.mul_add, Nat.pow_add]
    rw [e]
    show pkN f n + 2 ^ (12 * n) * f n < _
    have : 2 ^ (12 * n) * f n + 2 ^ (12 * n) ≤ 2 ^ (12 * n) * 4096 := by
      rw [← Nat.mul_succ]
      exact Nat.mul_le_mul_left _ h1
    omega
theorem pkN_e {f : Nat → Nat} (h : ∀ j, f j < 4096) {i : Nat} : ∀ n, i < n → pkN f n / 2 ^ (12 * i) % 4096 = f i
  | 0, hi => by omega
  | n + 1, hi => by
    by_cases e : i = n
    · subst e
      show (pkN f i + 2 ^ (12 * i) * f i) / 2 ^ (12 * i) % 4096 = _
      rw [Nat.add_mul_div_left _ _ (Nat.two_pow_pos _), Nat.div_eq_of_lt (pkN_l h i), Nat.zero_add]
      exact Nat.mod_eq_of_lt (h i)
    · have ih := pkN_e h n (i := i) (by omega)
      have e2 : 2 ^ (12 * n) = 2 ^ (12 * i) * (4096 * 2 ^ (12 * (n - i - 1))) := by
        rw [show 4096 = 2 ^ 12 from rfl, ← Nat.pow_add, ← Nat.pow_add]
        congr 1
        omega
      show (pkN f n + 2 ^ (12 * n) * f n) / 2 ^ (12 * i) % 4096 = _
      rw [e2, Nat.mul_assoc, Nat.add_mul_div_left _ _ (Nat.two_pow_pos _), Nat.mul_assoc, Nat.add_mul_mod_self_left]
      exact ih
/-- the rank behind a LINK -/
def nbR (W : Nat) (Lk : Nat → Nat → Bool) (r t : Nat) : Nat := if Lk (eT t / 6) (eT t % 6) = true then rkP ((unP W r).map (swx (eT t))) else r
def nbM (M : mm_M) (W : Nat) (Lk : Nat → Nat → Bool) (R : Nat) : Prop := ∀ r w, r < R → w < 3 → M.2 75 (3 * r + w) = nJ (pkN (fun i => nbR W Lk r (5 * w + i)) 5)
def arM (M : mm_M) (W R : Nat) : Prop := ∀ r, r < R → M.1 74 r = nI (pk8 (unP W r))
section RTL
variable {d : Nat} {M : mm_M} {W : Nat} {Lk : Nat → Nat → Bool}
theorem nbR_l {r t : Nat} (hW : W ≤ 6) (hr : r < cnW W) (ht : t < 15) : nbR W Lk r t < cnW W := by
  unfold nbR
  split
  · obtain ⟨_, _, a, b⟩ := eT_f t ht
    exact (rkP_u hW (arr_s a b (unP_a hW hr).1)).1
  · exact hr
/-- past the last LINK nothing is asked -/
def nbS (W : Nat) (Lk : Nat → Nat → Bool) (r w i : Nat) : Nat := if i < 5 then nbR W Lk r (5 * w + i) else 0
theorem pkN_c {f g : Nat → Nat} : ∀ n, (∀ j, j < n → f j = g j) → pkN f n = pkN g n
  | 0, _ => rfl
  | n + 1, h => by
    show pkN f n + 2 ^ (12 * n) * f n = pkN g n + 2 ^ (12 * n) * g n
    rw [pkN_c n (fun j hj => h j (by omega)), h n (by omega)]
theorem nbS_e {r w : Nat} : pkN (fun i => nbR W Lk r (5 * w + i)) 5 = pkN (nbS W Lk r w) 5 := pkN_c 5 (fun j hj => by
  unfold nbS
  rw [if_pos hj])
theorem nbS_l {r w : Nat} (hW : W ≤ 6) (hr : r < cnW W) (hw : w < 3) (i : Nat) : nbS W Lk r w i < 4096 := by
  unfold nbS
  split
  · have := nbR_l (Lk := Lk) hW hr (show 5 * w + i < 15 by omega)
    have := (cnW_7 W (by omega)).1
    omega
  · decide
set_option maxRecDepth 100000 in
theorem ct_hasL {t : Nat} (h : lnK M Lk) (ht : t < 15) : am_M (d + 1) false nm_X7_hasLink [aR 70, aI (nI t)] M (am_q1 (aI (b01 (Lk (eT t / 6) (eT t % 6)))) M) := by
  obtain ⟨g, g1, g2, g3⟩ := h
  have g3 := g3 t ht
  refine ⟨rfl, rfl, rfl, fun X hX => am_run hX 7 _ _ _ _ ?_⟩
  conv => whnf
  rw [g2, nI_sh (by omega) t (by omega), nI_m1, g3]
  cases hL : Lk (eT t / 6) (eT t % 6) with
  | true =>
    rw [if_pos rfl]
    refine ⟨fun z => absurd z (by decide), fun _ => ?_⟩
    refine am_run hX 3 _ _ _ _ ?_
    conv => whnf
    exact ⟨rfl, by rw [hL]; rfl, rfl⟩
  | false =>
    rw [if_neg (by decide)]
    refine ⟨fun _ => ?_, fun z => absurd rfl z⟩
    refine am_run hX 2 _ _ _ _ ?_
    conv => whnf
    exact ⟨rfl, by rw [hL]; rfl, rfl⟩
set_option maxRecDepth 100000 in
theorem pn_l {P : am_Q} {X : am_X} {r w : Nat} (hX : am_K (d + 2) false nm_X7_packNeighbours P X) (hW : W ≤ 6) (hr : r < cnW W) (hw : w < 3) (hL : lnK M Lk) (hA : M.1 74 r = nI (pk8 (unP W r))) (hP : P (.inl (some (aJ (nJ (pkN (nbS W Lk r w) 5))))) M) : ∀ (m i : Nat) (v7 v8 : Option am_V), i + m = 5 → X 6 [some (aR 70), some (aI (nI r)), some (aI (nI W)), some (aI (nI (5 * w))), some (aJ (nJ (pkN (nbS W Lk r w) i))), none, some (aI (nI i)), v7, v8] [] M := by
  have c7 := (cnW_7 W (by omega)).1
  intro m
  induction m with
  | zero =>
    intro i v7 v8 hi
    obtain rfl : i = 5 := by omega
    refine am_run hX 3 _ _ _ _ ?_
    conv => whnf
    refine ⟨fun _ => ?_, fun z => absurd (by decide) z⟩
    refine am_run hX 2 _ _ _ _ ?_
    conv => whnf
    exact ⟨trivial, hP⟩
  | succ m ih =>
    intro i v7 v8 hi
    have i5 : i < 5 := by omega
    have t15 : 5 * w + i < 15 := by omega
    obtain ⟨x1, x2, x3, x4⟩ := eT_f (5 * w + i) t15
    have ha := (unP_a hW hr).1
    have hl := pkN_l (nbS_l (Lk := Lk) hW hr hw) i
    have en : nbS W Lk r w i = nbR W Lk r (5 * w + i) := by unfold nbS; rw [if_pos i5]
    have nl := nbR_l (Lk := Lk) hW hr t15
    have go : ∀ v7', X 58 [some (aR 70), some (aI (nI r)), some (aI (nI W)), some (aI (nI (5 * w))), some (aJ (nJ (pkN (nbS W Lk r w) i))), none, some (aI (nI i)), v7', some (aI (nI (nbS W Lk r w i)))] [] M := by
      intro v7'
      have b1 : 2 ^ (12 * i) * nbS W Lk r w i = nbS W Lk r w i * 2 ^ (12 * i) := Nat.mul_comm _ _
      refine am_run hX 11 _ _ _ _ ?_
      conv => whnf
      rw [show (12 : Int32) * nI i = nI (12 * i) from by rw [show (12 : Int32) = nI 12 from rfl, nI_mul], nI_Jg (by rw [en]; omega), nJ_shl (by omega), nJ_or, b1, ix_or hl, nI_1]
      exact ih (i + 1) _ _ (by omega)
    refine am_run hX 3 _ _ _ _ ?_
    conv => whnf
    refine ⟨fun z => absurd z (nI_ge (a := i) (b := 5) i5 (by decide)), fun _ => ?_⟩
    refine am_run hX 6 _ _ _ _ ?_
    conv => whnf
    rw [nI_add]
    refine am_run hX 3 _ _ _ _ ?_
    conv => whnf
    refine am_c1 (ct_hasL (d := d + 1) hL t15) ?_
    refine am_run hX 1 _ _ _ _ ?_
    conv => whnf
    cases hq : Lk (eT (5 * w + i) / 6) (eT (5 * w + i) % 6) with
    | false =>
      refine ⟨fun _ => ?_, fun z => absurd rfl z⟩
      have e : nbS W Lk r w i = r := by
        rw [en]
        unfold nbR
        rw [hq, if_neg (by decide)]
      have := go (some (aI (nI (5 * w + i))))
      rw [e] at this
      exact this
    | true =>
      refine ⟨fun z => absurd z (by decide), fun _ => ?_⟩
      have e : nbS W Lk r w i = rkP ((unP W r).map (swx (eT (5 * w + i)))) := by
        rw [en]
        unfold nbR
        rw [hq, if_pos rfl]
      refine am_run hX 12 _ _ _ _ ?_
      conv => whnf
      refine ⟨vp_in_nI (by show r < 720; omega) (by decide), ?_⟩
      conv => whnf
      refine ⟨vp_in_nI (by show 5 * w + i < 15; omega) (by decide), ?_⟩
      conv => whnf
      refine ⟨vp_in_nI (by show 5 * w + i < 15; omega) (by decide), ?_⟩
      conv => whnf
      rw [nI_clamp (n := r) (by omega), nI_clamp (n := 5 * w + i) (by omega), hA]
      dsimp only
      rw [x1, x2]
      refine am_c1 (ct_swp (d := d) hW x3 ha) ?_
      refine am_run hX 2 _ _ _ _ ?_
      conv => whnf
      refine am_c1 (ct_rkP (d := d) hW (arr_s x3 x4 ha)) ?_
      refine am_run hX 1 _ _ _ _ ?_
      conv => whnf
      have := go (some (aI (nI (5 * w + i))))
      rw [e] at this
      exact this
set_option maxRecDepth 100000 in
theorem ct_pkN {r w : Nat} (hW : W ≤ 6) (hr : r < cnW W) (hw : w < 3) (hL : lnK M Lk) (hA : M.1 74 r = nI (pk8 (unP W r))) : am_M (d + 3) false nm_X7_packNeighbours [aR 70, aI (nI r), aI (nI W), aI (nI (5 * w))] M (am_q1 (aJ (nJ (pkN (nbS W Lk r w) 5))) M) := by
  refine ⟨rfl, rfl, rfl, fun X hX => am_run hX 4 _ _ _ _ ?_⟩
  conv => whnf
  exact pn_l (d := d) (M := M) hX hW hr hw hL hA ⟨rfl, rfl⟩ 5 0 none none (by omega)
theorem dvq_5 : ∀ t, t < 15 → nI t / 5 = nI (t / 5) ∧ nI t - nI t / 5 * 5 = nI (t % 5) := by decide +kernel
set_option maxRecDepth 100000 in
theorem ct_nbO {r t : Nat} (hW : W ≤ 6) (hr : r < cnW W) (ht : t < 15) (hN : nbM M W Lk (cnW W)) : am_M (d + 1) false nm_X7_neighbourOf [aR 70, aI (nI r), aI (nI t)] M (am_q1 (aI (nI (nbR W Lk r t))) M) := by
  have c7 := (cnW_7 W (by omega)).1
  obtain ⟨q1, q2⟩ := dvq_5 t ht
  have e0 := hN r (t / 5) hr (by omega)
  rw [nbS_e] at e0
  have hl := pkN_l (nbS_l (Lk := Lk) hW hr (show t / 5 < 3 by omega)) 5
  have ee := pkN_e (nbS_l (Lk := Lk) hW hr (show t / 5 < 3 by omega)) (i := t % 5) 5 (by omega)
  have es : nbS W Lk r (t / 5) (t % 5) = nbR W Lk r t := by
    unfold nbS
    rw [if_pos (by omega), show 5 * (t / 5) + t % 5 = t by omega]
  refine ⟨rfl, rfl, rfl, fun X hX => am_run hX 20 _ _ _ _ ?_⟩
  conv => whnf
  refine ⟨by decide, ?_⟩
  conv => whnf
  rw [q1, show (3 : Int32) * nI r + nI (t / 5) = nI (3 * r + t / 5) from by rw [show (3 : Int32) = nI 3 from rfl, nI_mul, nI_add]]
  refine ⟨vp_in_nI (by show _ < 2160; omega) (by decide), ?_⟩
  conv => whnf
  refine ⟨by decide, ?_⟩
  conv => whnf
  refine ⟨trivial, ?_, rfl⟩
  rw [nI_clamp (n := 3 * r + t / 5) (by omega), e0, q2, show (12 : Int32) * nI (t % 5) = nI (12 * (t % 5)) from by rw [show (12 : Int32) = nI 12 from rfl, nI_mul], nJ_sr (by omega) (by omega), nJ_32]
  have e2 : nI (pkN (nbS W Lk r (t / 5)) 5 / 2 ^ (12 * (t % 5))) &&& 4095 = nI (nbR W Lk r t) := by
    rw [show (4095 : Int32) = nI 4095 from rfl, nI_and, show (4095 : Nat) = 2 ^ 12 - 1 from rfl, Nat.and_two_pow_sub_one_eq_mod, show (2 : Nat) ^ 12 = 4096 from rfl, ee, es]
  exact congrArg (fun v => Sum.inl (some (aI v))) e2
end RTL
