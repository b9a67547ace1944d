/-! circuit: the class lays a USE out -/
/-- an OP of a ROUTINE -/
def rgX (K : Nat) (x : bk_X) : Prop := x.1 ≤ 8 ∧ x.2.1 < K ∧ (if x.1 = 8 then x.2.2.1 < K else x.2.2.1 = 0) ∧ x.2.2.2.1 < 2 ^ K ∧ x.2.2.2.2 = (0, 0)
def mpN (f : Nat → Nat) (m j : Nat) : Nat := (List.range j).foldl (fun a i => if m.testBit i = true then a ||| 2 ^ f i else a) 0
theorem mpN_s (f : Nat → Nat) (m j : Nat) : mpN f m (j + 1) = if m.testBit j = true then mpN f m j ||| 2 ^ f j else mpN f m j := by
  unfold mpN
  rw [List.range_succ, List.foldl_append]
  rfl
theorem mpM_N (f : Nat → Nat) {m K : Nat} (hm : m < 2 ^ K) (hK : K ≤ 4) : mpM f m = mpN f m 4 := by
  have m4 : m < 2 ^ 4 := Nat.lt_of_lt_of_le hm (Nat.pow_le_pow_right (by decide) hK)
  have z : ∀ j, 4 ≤ j → m.testBit j = false := fun j hj => Nat.testBit_lt_two_pow (Nat.lt_of_lt_of_le m4 (Nat.pow_le_pow_right (by decide) hj))
  show mpN f m (7 + 1) = _
  rw [mpN_s, z 7 (by decide), if_neg (by decide), mpN_s, z 6 (by decide), if_neg (by decide), mpN_s, z 5 (by decide), if_neg (by decide), mpN_s, z 4 (by decide), if_neg (by decide)]
theorem mpN_l {f : Nat → Nat} {m : Nat} (h : ∀ i, m.testBit i = true → f i < 8) : ∀ j, mpN f m j < 256
  | 0 => (by decide : 0 < 256)
  | j + 1 => by
    rw [mpN_s]
    split
    · rename_i q
      exact Nat.or_lt_two_pow (n := 8) (mpN_l h j) (Nat.pow_lt_pow_right (by decide) (h j q))
    · exact mpN_l h j
theorem rg_b {K : Nat} {x : bk_X} (h : rgX K x) (hK : K ≤ 4) : bk_w 8 x := by
  obtain ⟨h1, h2, h3, h4, h5⟩ := h
  have : 2 ^ K ≤ 2 ^ 4 := Nat.pow_le_pow_right (by decide) hK
  have a0 : x.2.2.2.2.1 = 0 := by rw [h5]
  have a1 : x.2.2.2.2.2 = 0 := by rw [h5]
  refine ⟨by omega, by omega, ?_, by omega, by omega, by omega⟩
  split at h3 <;> omega
theorem sh_8 : ∀ q, q < 8 → nI 1 <<< (nI q &&& 31) = nI (2 ^ q) := by decide +kernel
theorem shz_0 (v : Int32) : nI 0 <<< v = nI 0 := by
  show (0 : Int32) <<< v = 0
  simp
theorem nI_mq3 {n : Nat} (h : n < 4) : nI n &&& 3 = nI n := by
  have : ∀ n, n < 4 → nI n &&& 3 = nI n := by decide
  exact this n h
section CRM
variable {d : Nat} {M : mm_M} {T : Nat → Nat} {t W : Nat} {c : CX} {s : GS}
set_option maxRecDepth 100000 in
theorem ct_ren {K h : Nat} {bk : Bool} {f : Nat → Nat} {x : bk_X} (hK : K ≤ 4) (hx : rgX K x) (hN : ∀ i, i < K → M.1 8 i = nI (f i) ∧ f i < 8) (h17 : M.1 2 17 = nI (h + bckN bk)) (hh : h < 256) : am_M (d + 2) false nm_X5_renamed [aR 2, aI (nI (bk_p x))] M (am_q1 (aI (nI (bk_p (rnX f h x)))) M) := by
  have bw := rg_b hx hK
  obtain ⟨h1, h2, h3, h4, h5⟩ := hx
  have a0 : x.2.2.2.2.1 = 0 := by rw [h5]
  have a1 : x.2.2.2.2.2 = 0 := by rw [h5]
  have m4 : x.2.2.2.1 < 2 ^ 4 := Nat.lt_of_lt_of_le h4 (Nat.pow_le_pow_right (by decide) hK)
  have tb : ∀ i, x.2.2.2.1.testBit i = true → i < K := by
    intro i hi
    by_cases q : i < K
    · exact q
    · rw [Nat.testBit_lt_two_pow (Nat.lt_of_lt_of_le h4 (Nat.pow_le_pow_right (by decide) (by omega)))] at hi
      exact absurd hi (by decide)
  have ml := mpN_l (f := f) (m := x.2.2.2.1) (fun i hi => (hN i (tb i hi)).2)
  have hb : h + bckN bk < 2 ^ 20 := by unfold bckN; split <;> omega
  refine ⟨rfl, rfl, rfl, fun X hX => ?_⟩
  have pk : ∀ (w2 : Nat) (v2 : Int32), w2 = (if x.1 = 8 then f x.2.2.1 else 0) → w2 < 8 → X 60 [some (aR 2), some (aI (nI (bk_p x))), some (aI (nI ((h + bckN bk) ||| mpN f x.2.2.2.1 4))), some (aI v2)] [aI (nI w2)] M := by
    intro w2 v2 ew hw
    refine am_run hX 3 _ _ _ _ ?_
    conv => whnf
    refine am_c1 (ct_kind (d := d)) ?_
    rw [bk_k (by decide) bw]
    refine am_run hX 4 _ _ _ _ ?_
    conv => whnf
    refine am_c1 (ct_wireOf (d := d)) ?_
    rw [bk_wi (by decide) bw]
    obtain ⟨q1, q2⟩ := hN _ h2
    refine am_run hX 3 _ _ _ _ ?_
    conv => whnf
    rw [nI_mq3 (by omega)]
    refine ⟨vp_in_nI (by show x.2.1 < 4; omega) (by decide), ?_⟩
    conv => whnf
    rw [nI_clamp (n := x.2.1) (by omega), q1]
    refine am_run hX 3 _ _ _ _ ?_
    conv => whnf
    refine am_c1 (ct_packM (d := d) (by omega) q2 hw) ?_
    refine am_run hX 1 _ _ _ _ ?_
    conv => whnf
    refine ⟨trivial, ?_, rfl⟩
    have e : ((h + bckN bk) ||| mpN f x.2.2.2.1 4) % 256 = h ||| mpM f x.2.2.2.1 := by
      rw [mpM_N f h4 hK, show (256 : Nat) = 2 ^ 8 from rfl, Nat.or_mod_two_pow, Nat.mod_eq_of_lt (ml 4), show (h + bckN bk) % 2 ^ 8 = h from by unfold bckN; split <;> omega]
    rw [e]
    have e2 : x.1 + 16 * f x.2.1 + 128 * w2 + 1024 * (h ||| mpM f x.2.2.2.1) = bk_p (rnX f h x) := by
      show _ = x.1 + 16 * f x.2.1 + 128 * (if x.1 = 8 then f x.2.2.1 else x.2.2.1) + 1024 * (h ||| mpM f x.2.2.2.1) + 262144 * x.2.2.2.2.1 + 4194304 * x.2.2.2.2.2
      rw [a0, a1, ew]
      split
      · omega
      · rename_i q
        rw [if_neg q] at h3
        omega
    rw [e2]
  have sec : ∀ (v3 : Int32), X 36 [some (aR 2), some (aI (nI (bk_p x))), some (aI (nI ((h + bckN bk) ||| mpN f x.2.2.2.1 4))), some (aI v3)] [] M := by
    intro v3
    refine am_run hX 2 _ _ _ _ ?_
    conv => whnf
    refine am_c1 (ct_kind (d := d)) ?_
    rw [bk_k (by decide) bw]
    refine am_run hX 2 _ _ _ _ ?_
    conv => whnf
    rw [show (8 : Int32) = nI 8 from rfl, nI_eq (by omega) (by decide)]
    by_cases q : x.1 = 8
    · rw [if_pos q] at h3
      refine ⟨fun z => absurd q z, fun _ => ?_⟩
      refine am_run hX 4 _ _ _ _ ?_
      conv => whnf
      refine am_c1 (ct_secondOf (d := d)) ?_
      rw [bk_s (by decide) bw]
      obtain ⟨q1, q2⟩ := hN _ h3
      refine am_run hX 3 _ _ _ _ ?_
      conv => whnf
      rw [nI_mq3 (by omega)]
      refine ⟨vp_in_nI (by show x.2.2.1 < 4; omega) (by decide), ?_⟩
      conv => whnf
      rw [nI_clamp (n := x.2.2.1) (by omega), q1]
      refine am_run hX 1 _ _ _ _ ?_
      conv => whnf
      exact pk _ _ (by rw [if_pos q]) q2
    · refine ⟨fun _ => ?_, fun z => absurd q z⟩
      refine am_run hX 1 _ _ _ _ ?_
      conv => whnf
      exact pk 0 _ (by rw [if_neg q]) (by decide)
  have loop : ∀ (m i : Nat), i + m = 4 → X 7 [some (aR 2), some (aI (nI (bk_p x))), some (aI (nI ((h + bckN bk) ||| mpN f x.2.2.2.1 i))), some (aI (nI i))] [] M := by
    intro m
    induction m with
    | zero =>
      intro i hi
      obtain rfl : i = 4 := by omega
      refine am_run hX 3 _ _ _ _ ?_
      conv => whnf
      exact ⟨fun _ => sec _, fun z => absurd (by decide) z⟩
    | succ m ih =>
      intro i hi
      have i4 : i < 4 := by omega
      refine am_run hX 3 _ _ _ _ ?_
      conv => whnf
      refine ⟨fun z => absurd z (nI_ge (a := i) (b := 4) (by omega) (by decide)), fun _ => ?_⟩
      refine am_run hX 3 _ _ _ _ ?_
      conv => whnf
      refine am_c1 (ct_controlsOf (d := d)) ?_
      rw [bk_cc (by decide) bw]
      refine am_run hX 8 _ _ _ _ ?_
      conv => whnf
      refine ⟨vp_in_nI (by show i < 4; omega) (by decide), ?_⟩
      conv => whnf
      rw [nI_clamp (n := i) (by omega), nI_sh (by omega) i (by omega), nI_m1]
      have ih' := ih (i + 1) (by omega)
      rw [mpN_s] at ih'
      by_cases b : x.2.2.2.1.testBit i = true
      · rw [if_pos b, ← Nat.or_assoc] at ih'
        obtain ⟨q1, q2⟩ := hN i (tb i b)
        rw [(tb_d _ _).mp b, q1]
        refine am_run hX 5 _ _ _ _ ?_
        conv => whnf
        rw [sh_8 _ q2, nI_or, nI_1]
        exact ih'
      · rw [if_neg b] at ih'
        have z0 : x.2.2.2.1 / 2 ^ i % 2 = 0 := by
          have : x.2.2.2.1 / 2 ^ i % 2 ≠ 1 := fun z => b ((tb_d _ _).mpr z)
          omega
        rw [z0]
        refine am_run hX 5 _ _ _ _ ?_
        conv => whnf
        rw [shz_0, nI_or, Nat.or_zero, nI_1]
        exact ih'
  refine am_run hX 5 _ _ _ _ ?_
  conv => whnf
  rw [h17]
  have key := loop 4 0 (by decide)
  rw [show mpN f x.2.2.2.1 0 = 0 from rfl, Nat.or_zero] at key
  exact key
end CRM
