/-! THE CLASS'S observe AND step -/
def anyN (p : Nat → Bool) : Nat → Bool
  | 0 => false
  | n + 1 => anyN p n || p n
theorem any_t {p : Nat → Bool} {i : Nat} (h : p i = true) : ∀ n, i < n → anyN p n = true
  | 0, hn => by omega
  | n + 1, hn => by
    simp only [anyN]
    by_cases e : i = n
    · subst e
      rw [h, Bool.or_true]
    · rw [any_t h n (by omega), Bool.true_or]
theorem any_e {p q : Nat → Bool} : ∀ n, (∀ i, i < n → p i = q i) → anyN p n = anyN q n
  | 0, _ => rfl
  | n + 1, h => by
    simp only [anyN]
    rw [any_e n fun i hi => h i (by omega), h n (by omega)]
def z4 : R4 := (0, 0, 0, 0)
def upB (xs : Nat → R4) (t : Nat) (i : Nat) : Bool := decide (i.testBit t = true ∧ ¬ xs i = (0, 0, 0, 0))
def dnB (xs : Nat → R4) (t : Nat) (i : Nat) : Bool := decide (i.testBit t = false ∧ ¬ xs i = (0, 0, 0, 0))
/-- a bit of the tape -/
def tbit (x : Int64) (k : Nat) : Nat := x.toBitVec.toNat / 2 ^ k % 2
theorem tp_c {x : Int64} {k : Nat} (hk : k < 64) : ((x.toUInt64 >>> ((nI k).toInt64.toUInt64 &&& Int64.toUInt64 63)).toInt64).toInt32 &&& 1 = nI (tbit x k) := by
  have h : x.toBitVec.toNat < 2 ^ 64 := x.toBitVec.isLt
  conv => lhs; rw [nJ_of x]
  rw [nJ_us h hk, nJ_32, nI_m1]
  rfl
theorem tp_r {x : Int64} {k : Nat} (hk : k < 64) : (x >>> ((nI k).toInt64 &&& 63) &&& 1).toInt32 = nI (tbit x k) := by
  have hs : ∀ k, k < 64 → (((nI k).toInt64 &&& 63).toBitVec.smod 64) = BitVec.ofNat 64 k := by decide +kernel
  have e : x >>> ((nI k).toInt64 &&& 63) &&& 1 = nJ (tbit x k) := by
    apply Int64.toBitVec_inj.mp
    rw [nJ_b]
    apply BitVec.eq_of_getLsbD_eq
    intro i hi
    rw [Int64.toBitVec_and, BitVec.getLsbD_and]
    show ((x.toBitVec.sshiftRight' (((nI k).toInt64 &&& 63).toBitVec.smod 64)).getLsbD i && (1#64).getLsbD i) = _
    rw [hs k hk, BitVec.sshiftRight', BitVec.toNat_ofNat, Nat.mod_eq_of_lt (by omega), BitVec.getLsbD_sshiftRight, BitVec.getLsbD_ofNat]
    have hb : tbit x k = 0 ∨ tbit x k = 1 := by unfold tbit; omega
    have ht : x.toBitVec.getLsbD k = decide (tbit x k = 1) := by
      unfold tbit
      rw [BitVec.getLsbD, Nat.testBit_eq_decide_div_mod_eq]
    by_cases i0 : i = 0
    · subst i0
      rw [Nat.add_zero, if_pos hk, ht]
      rcases hb with q | q <;> rw [q] <;> rfl
    · have h1 : Nat.testBit 1 i = false := by
        apply Nat.testBit_lt_two_pow
        exact Nat.one_lt_two_pow i0
      rw [h1, Bool.and_false, Bool.and_false]
      have h2 : Nat.testBit (tbit x k) i = false := by
        apply Nat.testBit_lt_two_pow
        have := Nat.one_lt_two_pow i0
        omega
      rw [BitVec.getLsbD_ofNat, h2, Bool.and_false]
  rw [e, nJ_32]
/-- what is observed; how often the tape was taken; what stays -/
def obB (xs : Nat → R4) (t N : Nat) : Bool := anyN (upB xs t) N && anyN (dnB xs t) N
def obV (tape : Int64) (tk : Nat) (xs : Nat → R4) (t N : Nat) : Nat := if obB xs t N = true then (if tk < 64 then tbit tape tk else 0) else if anyN (upB xs t) N = true then 1 else 0
def obT (tk : Nat) (xs : Nat → R4) (t N : Nat) : Nat := if obB xs t N = true then tk + 1 else tk
def obX (v : Nat) (xs : Nat → R4) (t : Nat) : Nat → R4 := fun j => if j.testBit t = decide (v = 1) then xs j else (0, 0, 0, 0)
theorem obV_2 (tape : Int64) (tk : Nat) (xs : Nat → R4) (t N : Nat) : obV tape tk xs t N < 2 := by
  unfold obV
  have : tbit tape tk < 2 := Nat.mod_lt _ (by decide)
  by_cases h : obB xs t N = true
  · rw [if_pos h]
    by_cases h2 : tk < 64
    · rw [if_pos h2]
      exact this
    · rw [if_neg h2]
      decide
  · rw [if_neg h]
    by_cases h2 : anyN (upB xs t) N = true
    · rw [if_pos h2]
      decide
    · rw [if_neg h2]
      decide
/-- the RUN: power, STATE, how often the tape was taken, BITS -/
abbrev ru_A : Type := Nat × (Nat → R4) × Nat × Nat
def ast (W : Nat) (tape : Int64) (x : bk_X) (σ : ru_A) : ru_A :=
  if σ.2.2.2 &&& x.2.2.2.2.1 = x.2.2.2.2.1 ∧ σ.2.2.2 &&& x.2.2.2.2.2 = 0 then
    if x.1 < 9 then (if x.1 = 3 then σ.1 + 1 else σ.1, gx x.1 x.2.1 x.2.2.1 x.2.2.2.1 false (2 ^ W) σ.2.1, σ.2.2.1, σ.2.2.2)
    else if x.1 = 9 then (σ.1, obX (obV tape σ.2.2.1 σ.2.1 x.2.1 (2 ^ W)) σ.2.1 x.2.1, obT σ.2.2.1 σ.2.1 x.2.1 (2 ^ W), if obV tape σ.2.2.1 σ.2.1 x.2.1 (2 ^ W) = 1 then σ.2.2.2 ||| 2 ^ x.2.2.1 else σ.2.2.2 ^^^ (σ.2.2.2 &&& 2 ^ x.2.2.1))
    else (σ.1, if obV tape σ.2.2.1 σ.2.1 x.2.1 (2 ^ W) = 1 then gx 0 x.2.1 0 0 false (2 ^ W) (obX 1 σ.2.1 x.2.1) else obX 0 σ.2.1 x.2.1, obT σ.2.2.1 σ.2.1 x.2.1 (2 ^ W), σ.2.2.2)
  else σ
/-- the class's cells of the RUN -/
def c17 (g : Nat → Int32) (dn tk b : Nat) (gv : Int32) : Nat → Int32 := fun j => if j = 7 then nI dn else if j = 8 then nI tk else if j = 9 then nI b else if j = 10 then gv else g j
def cF (M : mm_M) (A B : Nat → Int32) (C : Nat → Int64) : mm_M := mm_l (mm_i (mm_i M 17 A) 18 B) 20 C
theorem cF_17 (M : mm_M) (A B : Nat → Int32) (C : Nat → Int64) (A' : Nat → Int32) : mm_i (cF M A B C) 17 A' = cF M A' B C := by
  show mm_l (mm_i (mm_i (mm_i M 17 A) 18 B) 17 A') 20 C = _
  rw [mm_ic _ 18 17 _ _ (by decide), mm_ii]
  rfl
theorem cF_18 (M : mm_M) (A B : Nat → Int32) (C : Nat → Int64) (B' : Nat → Int32) : mm_i (cF M A B C) 18 B' = cF M A B' C := by
  show mm_l (mm_i (mm_i (mm_i M 17 A) 18 B) 18 B') 20 C = _
  rw [mm_ii]
  rfl
theorem cF_20 (M : mm_M) (A B : Nat → Int32) (C C' : Nat → Int64) : mm_l (cF M A B C) 20 C' = cF M A B C' := by
  unfold cF
  rw [mm_ll]
theorem c17_7 (g : Nat → Int32) (dn tk b : Nat) (gv : Int32) (v : Nat) : upd (c17 g dn tk b gv) 7 (nI v) = c17 g v tk b gv := by
  funext j
  unfold upd c17
  by_cases h : j = 7
  · rw [if_pos h, if_pos h]
  · rw [if_neg h, if_neg h, if_neg h]
theorem c17_8 (g : Nat → Int32) (dn tk b : Nat) (gv : Int32) (v : Nat) : upd (c17 g dn tk b gv) 8 (nI v) = c17 g dn v b gv := by
  funext j
  unfold upd c17
  by_cases h : j = 8
  · subst h
    rfl
  · rw [if_neg h]
    simp only [h, if_false]
theorem c17_9 (g : Nat → Int32) (dn tk b : Nat) (gv : Int32) (v : Nat) : upd (c17 g dn tk b gv) 9 (nI v) = c17 g dn tk v gv := by
  funext j
  unfold upd c17
  by_cases h : j = 9
  · subst h
    rfl
  · rw [if_neg h]
    simp only [h, if_false]
theorem c17_10 (g : Nat → Int32) (dn tk b : Nat) (gv v : Int32) : upd (c17 g dn tk b gv) 10 v = c17 g dn tk b v := by
  funext j
  unfold upd c17
  by_cases h : j = 10
  · subst h
    rfl
  · rw [if_neg h]
    simp only [h, if_false]
section OBS
variable {d : Nat} {M : mm_M} {g : Nat → Int64}
set_option maxRecDepth 100000 in
theorem ha_l {P : am_Q} {X : am_X} {N : Nat} {mk v : Int32} {xs : Nat → R4} (hX : am_K (d + 1) false nm_X6_hasAny P X) (hN : N ≤ 256) (hs : M.1 18 2 = nI N) (hx : ∀ j, j < N → bd (xs j) ∧ rt_at M 20 j (xs j)) (hP : P (.inl (some (aI (if anyN (fun j => decide (nI j &&& mk = v ∧ ¬ xs j = (0, 0, 0, 0))) N = true then 1 else 0)))) M) : ∀ (m i : Nat), i + m = N → anyN (fun j => decide (nI j &&& mk = v ∧ ¬ xs j = (0, 0, 0, 0))) i = false → X 2 [some (aR 18), some (aI mk), some (aI v), some (aI (nI i))] [] M := by
  intro m
  induction m with
  | zero =>
    intro i hi ha
    have hi : i = N := by omega
    subst hi
    refine am_run hX 10 _ _ _ _ ?_
    conv => whnf
    rw [hs]
    refine ⟨fun _ => ?_, fun c => absurd (nI_le (by omega) (by omega)) c⟩
    conv => whnf
    rw [ha] at hP
    exact ⟨rfl, hP⟩
  | succ m ih =>
    intro i hi ha
    have ih := ih (i + 1) (by omega)
    simp only [anyN] at ih
    refine am_run hX 4 _ _ _ _ ?_
    conv => whnf
    rw [hs]
    refine ⟨fun c => absurd c (nI_ge (by omega) (by omega)), fun _ => ?_⟩
    refine am_run hX 5 _ _ _ _ ?_
    conv => whnf
    refine ⟨fun q => ?_, fun q => ?_⟩
    · refine am_run hX 2 _ _ _ _ ?_
      conv => whnf
      rw [nI_1]
      exact ih (by rw [ha, decide_eq_false (fun z => q z.1)]; rfl)
    · have q : nI i &&& mk = v := Decidable.byContradiction q
      obtain ⟨hb, hr⟩ := hx i (by omega)
      refine am_run hX 4 _ _ _ _ ?_
      conv => whnf
      refine am_c1 (ct_isz18 (d := d) (by omega)) ?_
      by_cases hz : zb M i = true
      · rw [if_pos hz]
        conv => whnf
        refine ⟨fun _ => ?_, fun c => absurd (by decide) c⟩
        refine am_run hX 2 _ _ _ _ ?_
        conv => whnf
        rw [nI_1]
        exact ih (by rw [ha, decide_eq_false (fun z => z.2 ((zb_iff hb hr).mp hz))]; rfl)
      · rw [if_neg hz]
        conv => whnf
        refine ⟨fun c => absurd rfl c, fun _ => ?_⟩
        refine am_run hX 3 _ _ _ _ ?_
        conv => whnf
        have ht : anyN (fun j => decide (nI j &&& mk = v ∧ ¬ xs j = (0, 0, 0, 0))) N = true := any_t (i := i) (decide_eq_true ⟨q, fun e => hz ((zb_iff hb hr).mpr e)⟩) N (by omega)
        rw [ht] at hP
        exact ⟨rfl, hP⟩
set_option maxRecDepth 100000 in
theorem ct_hasAny {N : Nat} {mk v : Int32} {xs : Nat → R4} (hN : N ≤ 256) (hs : M.1 18 2 = nI N) (hx : ∀ j, j < N → bd (xs j) ∧ rt_at M 20 j (xs j)) : am_M (d + 2) false nm_X6_hasAny [aR 18, aI mk, aI v] M (am_q1 (aI (if anyN (fun j => decide (nI j &&& mk = v ∧ ¬ xs j = (0, 0, 0, 0))) N = true then 1 else 0)) M) := by
  refine ⟨rfl, rfl, rfl, fun X hX => am_run hX 2 _ _ _ _ ?_⟩
  conv => whnf
  exact ha_l hX hN hs hx ⟨rfl, rfl⟩ N 0 (by omega) rfl
set_option maxRecDepth 100000 in
theorem wo_b {P : am_Q} {X : am_X} {N i p : Nat} {xs : Nat → R4} (hX : am_K d false nm_X6_wipeOne P X) (hN : N ≤ 256) (hi : i < N) (hp : p < 4) (hK : X 2 [some (aR 18), some (aI (nI i)), some (aI (nI (p + 1)))] [] (mm_l M 20 (cq g N (stpp xs i p 0)))) : X 2 [some (aR 18), some (aI (nI i)), some (aI (nI p))] [] (mm_l M 20 (cq g N xs)) := by
  refine am_run hX 3 _ _ _ _ ?_
  conv => whnf
  refine ⟨fun c => absurd c (nI_ge (a := p) (b := 4) hp (by decide)), fun _ => ?_⟩
  refine am_run hX 11 _ _ _ _ ?_
  conv => whnf
  rw [show (4 : Int32) * nI i + nI p = nI (4 * i + p) from by rw [show (4 : Int32) = nI 4 from rfl, nI_mul, nI_add]]
  refine ⟨vp_in_nI (by show _ < 1024; omega) (by decide), ?_⟩
  conv => whnf
  rw [nI_clamp (n := 4 * i + p) (by omega), nI_1, mm_l2, mm_ll, show (0 : Int64) = lI 0 from by decide, cq_u 0 hi hp]
  exact hK
theorem wo_4 (xs : Nat → R4) (i : Nat) : stpp (stpp (stpp (stpp xs i 0 0) i 1 0) i 2 0) i 3 0 = stx xs i (0, 0, 0, 0) := by
  funext k
  unfold stx
  by_cases h : k = i
  · subst h
    simp only [stpp, if_pos]
    rfl
  · simp only [stpp, if_neg h]
set_option maxRecDepth 100000 in
theorem ct_wipe1 {N i : Nat} {xs : Nat → R4} (hN : N ≤ 256) (hi : i < N) : am_M (d + 1) false nm_X6_wipeOne [aR 18, aI (nI i)] (mm_l M 20 (cq g N xs)) (am_q0 (mm_l M 20 (cq g N (stx xs i (0, 0, 0, 0))))) := by
  refine ⟨rfl, rfl, rfl, fun X hX => am_run hX 2 _ _ _ _ ?_⟩
  conv => whnf
  refine wo_b (p := 0) hX hN hi (by decide) (wo_b (p := 1) hX hN hi (by decide) (wo_b (p := 2) hX hN hi (by decide) (wo_b (p := 3) hX hN hi (by decide) ?_)))
  rw [wo_4]
  refine am_run hX 10 _ _ _ _ ?_
  conv => whnf
  refine ⟨fun _ => ?_, fun c => absurd (by decide) c⟩
  conv => whnf
  exact ⟨trivial, rfl, rfl⟩
set_option maxRecDepth 100000 in
theorem wi_l {P : am_Q} {X : am_X} {N : Nat} {mk v : Int32} {xs : Nat → R4} (hX : am_K (d + 1) false nm_X6_wipe P X) (hN : N ≤ 256) (hs : M.1 18 2 = nI N) (hP : P (.inl none) (mm_l M 20 (cq g N (rotm (fun i => nI i &&& mk = v) (fun _ => (0, 0, 0, 0)) xs N)))) : ∀ (m i : Nat), i + m = N → X 2 [some (aR 18), some (aI mk), some (aI v), some (aI (nI i))] [] (mm_l M 20 (cq g N (rotm (fun i => nI i &&& mk = v) (fun _ => (0, 0, 0, 0)) xs i))) := by
  intro m
  induction m with
  | zero =>
    intro i hi
    have hi : i = N := by omega
    subst hi
    refine am_run hX 10 _ _ _ _ ?_
    conv => whnf
    rw [show (mm_l M 20 (cq g i (rotm (fun i => nI i &&& mk = v) (fun _ => (0, 0, 0, 0)) xs i))).1 18 2 = nI i from hs]
    refine ⟨fun _ => ?_, fun c => absurd (nI_le (by omega) (by omega)) c⟩
    conv => whnf
    exact ⟨trivial, hP⟩
  | succ m ih =>
    intro i hi
    have ih := ih (i + 1) (by omega)
    refine am_run hX 4 _ _ _ _ ?_
    conv => whnf
    rw [show (mm_l M 20 (cq g N (rotm (fun i => nI i &&& mk = v) (fun _ => (0, 0, 0, 0)) xs i))).1 18 2 = nI N from hs]
    refine ⟨fun c => absurd c (nI_ge (by omega) (by omega)), fun _ => ?_⟩
    refine am_run hX 5 _ _ _ _ ?_
    conv => whnf
    refine ⟨fun q => ?_, fun q => ?_⟩
    · refine am_run hX 2 _ _ _ _ ?_
      conv => whnf
      rw [nI_1]
      rw [← rot_n (S := fun i => nI i &&& mk = v) q] at ih
      exact ih
    · have q : nI i &&& mk = v := Decidable.byContradiction q
      refine am_run hX 5 _ _ _ _ ?_
      conv => whnf
      refine am_c0 (ct_wipe1 (d := d) hN (by omega)) ?_
      rw [rot_s (S := fun i => nI i &&& mk = v) (F := fun _ => (0, 0, 0, 0)) q]
      conv => whnf
      rw [nI_1]
      exact ih
set_option maxRecDepth 100000 in
theorem ct_wipe {N : Nat} {mk v : Int32} {xs : Nat → R4} (hN : N ≤ 256) (hs : M.1 18 2 = nI N) : am_M (d + 2) false nm_X6_wipe [aR 18, aI mk, aI v] (mm_l M 20 (cq g N xs)) (am_q0 (mm_l M 20 (cq g N (rotm (fun i => nI i &&& mk = v) (fun _ => (0, 0, 0, 0)) xs N)))) := by
  refine ⟨rfl, rfl, rfl, fun X hX => am_run hX 2 _ _ _ _ ?_⟩
  conv => whnf
  have key := wi_l (d := d) (M := M) (g := g) (xs := xs) (mk := mk) (v := v) hX hN hs ⟨rfl, rfl⟩ N 0 (by omega)
  rw [rot_0] at key
  exact key
/-- a place's look at its WIRE's bit, as ints -/
theorem iB1 {t W : Nat} (hW : W ≤ 8) (ht : t < W) : ∀ i, i < 2 ^ W → (nI i &&& nI (2 ^ t) = nI (2 ^ t) ↔ i.testBit t = true) := fun i hi => by
  have h := iS1 (c := 0) hW ht (Nat.two_pow_pos W) (Nat.zero_testBit t) i hi
  rw [Nat.or_zero] at h
  rw [h]
  unfold gS1
  rw [Nat.and_zero]
  simp
theorem iB0 {t W : Nat} (hW : W ≤ 8) (ht : t < W) : ∀ i, i < 2 ^ W → (nI i &&& nI (2 ^ t) = 0 ↔ i.testBit t = false) := fun i hi => by
  have h := iS0 (c := 0) hW ht (Nat.two_pow_pos W) (Nat.zero_testBit t) i hi
  rw [Nat.or_zero] at h
  rw [show (0 : Int32) = nI 0 from rfl, h]
  unfold gS0
  rw [Nat.and_zero]
  simp
theorem ob_w1 {t W : Nat} {xs : Nat → R4} (hW : W ≤ 8) (ht : t < W) {j : Nat} (hj : j < 2 ^ W) : rotm (fun i => nI i &&& nI (2 ^ t) = 0) (fun _ => (0, 0, 0, 0)) xs (2 ^ W) j = obX 1 xs t j := by
  unfold rotm obX
  by_cases h : j.testBit t = false
  · rw [if_pos ⟨(iB0 hW ht j hj).mpr h, hj⟩, if_neg (by rw [h]; decide)]
  · rw [if_neg (fun q => h ((iB0 hW ht j hj).mp q.1)), if_pos (by simpa using h)]
theorem ob_w0 {t W v : Nat} {xs : Nat → R4} (hW : W ≤ 8) (ht : t < W) (hv : ¬ v = 1) {j : Nat} (hj : j < 2 ^ W) : rotm (fun i => nI i &&& nI (2 ^ t) = nI (2 ^ t)) (fun _ => (0, 0, 0, 0)) xs (2 ^ W) j = obX v xs t j := by
  unfold rotm obX
  by_cases h : j.testBit t = true
  · rw [if_pos ⟨(iB1 hW ht j hj).mpr h, hj⟩, if_neg (by rw [h]; simp [hv])]
  · rw [if_neg (fun q => h ((iB1 hW ht j hj).mp q.1)), if_pos (by simp [hv]; simpa using h)]
set_option maxRecDepth 100000 in
theorem ct_observe {W t dn tk b : Nat} {xs : Nat → R4} {gv : Int32} {B : Nat → Int32} {tape : Int64} (hW : W ≤ 8) (ht : t < W) (htk : tk < 2 ^ 30) (hT : M.2 17 11 = tape) (hs : B 2 = nI (2 ^ W)) (hb : ∀ j, j < 2 ^ W → bd (xs j)) : am_M (d + 3) false nm_X4_observe [aR 17, aI (nI (2 ^ t))] (cF M (c17 (M.1 17) dn tk b gv) B (cq g (2 ^ W) xs)) (am_q1 (aI (nI (obV tape tk xs t (2 ^ W)))) (cF M (c17 (M.1 17) dn (obT tk xs t (2 ^ W)) b gv) B (cq g (2 ^ W) (obX (obV tape tk xs t (2 ^ W)) xs t)))) := by
  have hN := w256 hW
  have hx : ∀ (A : Nat → Int32) (j : Nat), j < 2 ^ W → bd (xs j) ∧ rt_at (cF M A B (cq g (2 ^ W) xs)) 20 j (xs j) := fun A j hj => ⟨hb j hj, cq_rt (g := g) (N := 2 ^ W) rfl hj⟩
  have hsz : ∀ (A : Nat → Int32) (C : Nat → Int64), (cF M A B C).1 18 2 = nI (2 ^ W) := fun A C => hs
  have eU : anyN (fun j => decide (nI j &&& nI (2 ^ t) = nI (2 ^ t) ∧ ¬ xs j = (0, 0, 0, 0))) (2 ^ W) = anyN (upB xs t) (2 ^ W) := any_e _ fun i hi => by
    unfold upB
    simp only [iB1 hW ht i hi]
  have eD : anyN (fun j => decide (nI j &&& nI (2 ^ t) = 0 ∧ ¬ xs j = (0, 0, 0, 0))) (2 ^ W) = anyN (dnB xs t) (2 ^ W) := any_e _ fun i hi => by
    unfold dnB
    simp only [iB0 hW ht i hi]
  refine ⟨rfl, rfl, rfl, fun X hX => ?_⟩
  -- from 72 on: what is left is wiped
  have fin : ∀ v, v < 2 → ∀ tk' l2, obV tape tk xs t (2 ^ W) = v → obT tk xs t (2 ^ W) = tk' → X 72 [some (aR 17), some (aI (nI (2 ^ t))), some (aI l2), some (aI (nI v))] [] (cF M (c17 (M.1 17) dn tk' b gv) B (cq g (2 ^ W) xs)) := by
    intro v hv tk' l2 e1 e2
    rcases (by omega : v = 0 ∨ v = 1) with rfl | rfl
    · refine am_run hX 40 _ _ _ _ ?_
      conv => whnf
      refine ⟨fun _ => ?_, fun c => absurd (by decide) c⟩
      conv => whnf
      refine am_c0 (ct_wipe (d := d) (M := mm_i (mm_i M 17 (c17 (M.1 17) dn tk' b gv)) 18 B) hN hs) ?_
      conv => whnf
      refine ⟨trivial, by rw [e1], ?_⟩
      rw [e1, e2]
      exact congrArg (cF M _ B) (cq_e fun j hj => ob_w0 hW ht (by decide) hj)
    · refine am_run hX 40 _ _ _ _ ?_
      conv => whnf
      refine ⟨fun c => absurd rfl c, fun _ => ?_⟩
      conv => whnf
      refine am_c0 (ct_wipe (d := d) (M := mm_i (mm_i M 17 (c17 (M.1 17) dn tk' b gv)) 18 B) hN hs) ?_
      conv => whnf
      refine ⟨trivial, by rw [e1], ?_⟩
      rw [e1, e2]
      exact congrArg (cF M _ B) (cq_e fun j hj => ob_w1 hW ht hj)
  refine am_run hX 8 _ _ _ _ ?_
  conv => whnf
  refine am_c1 (ct_hasAny (d := d) hN (hsz _ _) (hx _)) ?_
  rw [eU]
  by_cases hU : anyN (upB xs t) (2 ^ W) = true
  · rw [if_pos hU]
    conv => whnf
    refine ⟨fun c => absurd c (by decide), fun _ => ?_⟩
    refine am_run hX 5 _ _ _ _ ?_
    conv => whnf
    refine ⟨fun c => absurd c (by decide), fun _ => ?_⟩
    refine am_run hX 6 _ _ _ _ ?_
    conv => whnf
    refine am_c1 (ct_hasAny (d := d) hN (hsz _ _) (hx _)) ?_
    rw [eD]
    by_cases hD : anyN (dnB xs t) (2 ^ W) = true
    · have hB : obB xs t (2 ^ W) = true := by
        unfold obB
        rw [hU, hD]
        rfl
      have eT : obT tk xs t (2 ^ W) = tk + 1 := if_pos hB
      rw [if_pos hD]
      conv => whnf
      refine ⟨fun c => absurd c (by decide), fun _ => ?_⟩
      refine am_run hX 4 _ _ _ _ ?_
      conv => whnf
      rw [show (cF M (c17 (M.1 17) dn tk b gv) B (cq g (2 ^ W) xs)).1 17 8 = nI tk from rfl]
      by_cases h64 : tk < 64
      · have eV : obV tape tk xs t (2 ^ W) = tbit tape tk := by
          unfold obV
          rw [if_pos hB, if_pos h64]
        refine ⟨fun c => absurd c (nI_ge (a := tk) (b := 64) h64 (by decide)), fun _ => ?_⟩
        refine am_run hX 16 _ _ _ _ ?_
        conv => whnf
        rw [show (cF M (c17 (M.1 17) dn tk b gv) B (cq g (2 ^ W) xs)).1 17 8 = nI tk from rfl, show (cF M (c17 (M.1 17) dn tk b gv) B (cq g (2 ^ W) xs)).2 17 11 = tape from hT, tp_c h64, nI_1, cF_17, show (cF M (c17 (M.1 17) dn tk b gv) B (cq g (2 ^ W) xs)).1 17 = c17 (M.1 17) dn tk b gv from rfl, c17_8]
        exact fin _ (Nat.mod_lt _ (by decide)) _ _ eV eT
      · have eV : obV tape tk xs t (2 ^ W) = 0 := by
          unfold obV
          rw [if_pos hB, if_neg h64]
        refine ⟨fun _ => ?_, fun c => absurd (nI_le (a := 64) (by omega) (by omega)) c⟩
        refine am_run hX 8 _ _ _ _ ?_
        conv => whnf
        rw [show (cF M (c17 (M.1 17) dn tk b gv) B (cq g (2 ^ W) xs)).1 17 8 = nI tk from rfl, nI_1, cF_17, show (cF M (c17 (M.1 17) dn tk b gv) B (cq g (2 ^ W) xs)).1 17 = c17 (M.1 17) dn tk b gv from rfl, c17_8]
        exact fin 0 (by decide) _ _ eV eT
    · have hB : ¬ obB xs t (2 ^ W) = true := fun q => by
        unfold obB at q
        rw [hU, Bool.true_and] at q
        exact hD q
      rw [if_neg hD]
      conv => whnf
      refine ⟨fun _ => ?_, fun c => absurd rfl c⟩
      exact fin 1 (by decide) _ _ (by unfold obV; rw [if_neg hB, if_pos hU]) (if_neg hB)
  · have hB : ¬ obB xs t (2 ^ W) = true := fun q => by
      unfold obB at q
      rw [Bool.and_eq_true] at q
      exact hU q.1
    rw [if_neg hU]
    conv => whnf
    refine ⟨fun _ => ?_, fun c => absurd rfl c⟩
    refine am_run hX 4 _ _ _ _ ?_
    conv => whnf
    refine ⟨fun _ => ?_, fun c => absurd rfl c⟩
    exact fin 0 (by decide) _ _ (by unfold obV; rw [if_neg hB, if_neg hU]) (if_neg hB)
end OBS
