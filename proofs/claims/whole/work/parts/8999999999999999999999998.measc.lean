/-! measure, the class -/
def taF (M N : mm_M) : Prop := (∀ k, (k < 25 ∨ 28 < k) → N.1 k = M.1 k) ∧ (∀ j, j ≠ 4 → N.1 25 j = M.1 25 j) ∧ N.2 = M.2
theorem taF_r (M : mm_M) : taF M M := ⟨fun _ _ => rfl, fun _ _ => rfl, rfl⟩
theorem taF_t {M N K : mm_M} (h : taF M N) (h' : taF N K) : taF M K := ⟨fun k a => (h'.1 k a).trans (h.1 k a), fun j a => (h'.2.1 j a).trans (h.2.1 j a), h'.2.2.trans h.2.2⟩
/-- the first row with the bit -/
def fiR (n w : Nat) (Y : Nat → RW) (i : Nat) : Prop := i < n ∧ (Y i).1.testBit w = true ∧ ∀ j, j < i → (Y j).1.testBit w = false
theorem fi_or (n w : Nat) (Y : Nat → RW) : nxb n w Y ∨ ∃ i, fiR n w Y i := by
  induction n with
  | zero => exact Or.inl fun j hj => absurd hj (Nat.not_lt_zero _)
  | succ n ih =>
    rcases ih with h | ⟨i, h1, h2⟩
    · by_cases c : (Y n).1.testBit w = true
      · exact Or.inr ⟨n, by omega, c, h⟩
      · refine Or.inl fun j hj => ?_
        rcases (by omega : j < n ∨ j = n) with e | e
        · exact h j e
        · rw [e]
          exact Bool.eq_false_iff.mpr c
    · exact Or.inr ⟨i, by omega, h2⟩
/-- the rows behind a measurement of both -/
def mzR (n w b i : Nat) (f : RW → RW → RW) (Y : Nat → RW) (j : Nat) : RW := if j = i then (0, 2 ^ w, b) else if (Y j).1.testBit w = true then f (Y j) (Y i) else Y j
section MSC
variable {d n w : Nat} {M : mm_M} {Y : Nat → RW}
theorem tb_i {x w : Nat} (hx : x < 2 ^ 20) (hw : w < 20) : nI x >>> (nI w &&& 31) &&& 1 = nI (if x.testBit w = true then 1 else 0) := by
  rw [nI_sh (by omega) w (by omega), nI_m1]
  have := bt_t x w
  unfold bt at this
  rw [this]
  cases x.testBit w <;> rfl
theorem pwN20 {n x : Nat} (hn : n ≤ 20) (hx : x < 2 ^ n) : x < 2 ^ 20 := Nat.lt_of_lt_of_le hx (Nat.pow_le_pow_right (by decide) hn)
set_option maxRecDepth 100000 in
theorem sz_l {Pp : am_Q} {X : am_X} (hX : am_K d false nm_X8_signOfZ Pp X) (n20 : n ≤ 20) (hw : w < n) (h3 : M.1 25 3 = nI n) (hY : ∀ j, j < n → rw_n n (Y j) ∧ rA M j (Y j)) (hP : Pp (.inl (some (aI (nI (sgZ n w Y n).2)))) M) : ∀ m j, j + m = n → X 13 [some (aR 25), some (aI (nI w)), some (aI (nI (sgZ n w Y j).1)), some (aI (nI (sgZ n w Y j).2)), some (aI (nI j))] [] M := by
  have B := sgZ_b (Y := Y) hw (fun j hj => (hY j hj).1)
  intro m
  induction m with
  | zero =>
    intro j hj
    have hj : j = n := by omega
    subst hj
    refine am_run hX 4 _ _ _ _ ?_
    conv => whnf
    rw [h3]
    refine ⟨fun _ => ?_, fun c => absurd (nI_le (by omega) (by omega)) c⟩
    refine am_run hX 2 _ _ _ _ ?_
    conv => whnf
    exact ⟨trivial, hP⟩
  | succ m ih =>
    intro j hj
    obtain ⟨rn, r1, r2, r3⟩ := hY j (by omega)
    have x20 := pwN20 n20 rn.1
    have z20 := pwN20 n20 rn.2.1
    have hJ : vp_in (nI j) 20 := vp_in_nI (by omega) (by decide)
    obtain ⟨b1, b2⟩ := B j (by omega)
    have ln := low_n b1 rn.2.1 n20
    have e0 : sgZ n w Y (j + 1) = if (Y j).1 = 0 ∧ (sgZ n w Y j).1.testBit (lwF (Y j).2.1 n 0) = true then ((sgZ n w Y j).1 ^^^ (Y j).2.1, (sgZ n w Y j).2 ^^^ (Y j).2.2) else sgZ n w Y j := rfl
    have skip : ¬ ((Y j).1 = 0 ∧ (sgZ n w Y j).1.testBit (lwF (Y j).2.1 n 0) = true) → X 73 [some (aR 25), some (aI (nI w)), some (aI (nI (sgZ n w Y j).1)), some (aI (nI (sgZ n w Y j).2)), some (aI (nI j))] [] M := fun q => by
      refine am_run hX 2 _ _ _ _ ?_
      conv => whnf
      rw [nI_1]
      have := ih (j + 1) (by omega)
      rw [e0, if_neg q] at this
      exact this
    refine am_run hX 4 _ _ _ _ ?_
    conv => whnf
    rw [h3]
    refine ⟨fun c => absurd c (nI_ge (by omega) (by omega)), fun _ => ?_⟩
    refine am_run hX 5 _ _ _ _ ?_
    conv => whnf
    refine ⟨hJ, ?_⟩
    conv => whnf
    rw [nI_clamp (n := j) (by omega), r1]
    by_cases x0 : (Y j).1 = 0
    · refine ⟨fun z => absurd (by rw [x0]; rfl) z, fun _ => ?_⟩
      refine am_run hX 6 _ _ _ _ ?_
      conv => whnf
      refine ⟨hJ, ?_⟩
      conv => whnf
      refine am_run hX 7 _ _ _ _ ?_
      conv => whnf
      refine ⟨hJ, ?_⟩
      conv => whnf
      rw [nI_clamp (n := j) (by omega), r2]
      by_cases q : (sgZ n w Y j).1.testBit (lwF (Y j).2.1 n 0) = true
      · refine ⟨fun z => absurd (ln.mp z) (by rw [q]; decide), fun _ => ?_⟩
        refine am_run hX 7 _ _ _ _ ?_
        conv => whnf
        refine ⟨hJ, ?_⟩
        conv => whnf
        rw [nI_clamp (n := j) (by omega), r2, nI_xor]
        refine am_run hX 7 _ _ _ _ ?_
        conv => whnf
        refine ⟨hJ, ?_⟩
        conv => whnf
        rw [nI_clamp (n := j) (by omega), r3, nI_xor]
        refine am_run hX 2 _ _ _ _ ?_
        conv => whnf
        rw [nI_1]
        have := ih (j + 1) (by omega)
        rw [e0, if_pos ⟨x0, q⟩] at this
        exact this
      · exact ⟨fun _ => skip fun z => q z.2, fun z => absurd (ln.mpr (Bool.eq_false_iff.mpr q)) z⟩
    · exact ⟨fun _ => skip fun z => x0 z.1, fun z => absurd (fun y => x0 ((nI_eq (b := 0) (by omega) (by decide)).mp y)) z⟩
set_option maxRecDepth 100000 in
theorem ct_sgZ (n20 : n ≤ 20) (hw : w < n) (h3 : M.1 25 3 = nI n) (hY : ∀ j, j < n → rw_n n (Y j) ∧ rA M j (Y j)) (h4 : M.1 25 4 = 0 ∨ M.1 25 4 = 1 ∧ Y = redR n Y) : am_M (d + 5) false nm_X8_signOfZ [aR 25, aI (nI w)] M (fun t N => t = .inl (some (aI (nI (sgZ n w (redR n Y) n).2))) ∧ (N = M ∧ Y = redR n Y ∨ N = strM M n Y)) := by
  refine ⟨rfl, rfl, rfl, fun X hX => am_run hX 2 _ _ _ _ ?_⟩
  conv => whnf
  have go : ∀ N, N.1 25 3 = nI n → (∀ j, j < n → rA N j (redR n Y j)) → (N = M ∧ Y = redR n Y ∨ N = strM M n Y) → X 4 [some (aR 25), some (aI (nI w)), none, none, none] [] N := fun N n3 nr hN => by
    refine am_run hX 8 _ _ _ _ ?_
    conv => whnf
    rw [sh2 w (by omega)]
    exact sz_l (M := N) (Y := redR n Y) hX n20 hw n3 (fun j hj => ⟨rd_n' (fun j hj => (hY j hj).1) hj, nr j hj⟩) ⟨rfl, hN⟩ n 0 (by omega)
  rcases h4 with h4 | ⟨h4, eY⟩
  · have key := ct_str0 (e := d) (M := M) (Y := Y) h3 h4 n20 (fun j hj => (hY j hj).1)
    rw [gA_self (fun j hj => (hY j hj).2)] at key
    refine am_c0 key ?_
    conv => whnf
    exact go (strM M n Y) h3 (fun j hj => gA_row (M := M) (Y := redR n Y) hj) (Or.inr rfl)
  · refine am_c0 (ct_str1 (e := d) h3 n20 h4) ?_
    conv => whnf
    exact go M h3 (fun j hj => by rw [← eY]; exact (hY j hj).2) (Or.inl ⟨rfl, eY⟩)
set_option maxRecDepth 100000 in
theorem ob_s {v2 : Int32} {i : Nat} {l4 : Option am_V} {Pp : am_Q} {X : am_X} (hX : am_K d false nm_X8_observe Pp X) (n20 : n ≤ 20) (hw : w < n) (h3 : M.1 25 3 = nI n) (hY : ∀ j, j < n → rw_n n (Y j) ∧ rA M j (Y j)) (hi : i = n ∧ nxb n w Y ∨ fiR n w Y i) (hK : X 29 [some (aR 25), some (aI (nI w)), some (aI v2), some (aI (nI i)), l4] [] M) : ∀ m j, j + m = i → X 2 [some (aR 25), some (aI (nI w)), some (aI v2), some (aI (nI j)), l4] [] M := by
  have il : i ≤ n := by
    rcases hi with ⟨e, _⟩ | h
    · omega
    · have := h.1
      omega
  have no : ∀ j, j < i → (Y j).1.testBit w = false := fun j hj => by
    rcases hi with ⟨e, h⟩ | h
    · exact h j (by omega)
    · exact h.2.2 j hj
  intro m
  induction m with
  | zero =>
    intro j hj
    have hj : j = i := by omega
    subst hj
    refine am_run hX 4 _ _ _ _ ?_
    conv => whnf
    rw [h3]
    rcases hi with ⟨e, _⟩ | h
    · exact ⟨fun _ => hK, fun c => absurd (nI_le (by omega) (by omega)) c⟩
    · obtain ⟨rn, r1, _⟩ := hY j h.1
      have jl := h.1
      refine ⟨fun c => absurd c (nI_ge h.1 (by omega)), fun _ => ?_⟩
      refine am_run hX 9 _ _ _ _ ?_
      conv => whnf
      refine ⟨vp_in_nI (by show j < 20; omega) (by decide), ?_⟩
      conv => whnf
      rw [nI_clamp (n := j) (by omega), r1, tb_i (pwN20 n20 rn.1) (by omega), if_pos h.2.1]
      exact ⟨fun _ => hK, fun c => absurd (by decide) c⟩
  | succ m ih =>
    intro j hj
    obtain ⟨rn, r1, _⟩ := hY j (by omega)
    refine am_run hX 4 _ _ _ _ ?_
    conv => whnf
    rw [h3]
    refine ⟨fun c => absurd c (nI_ge (by omega) (by omega)), fun _ => ?_⟩
    refine am_run hX 9 _ _ _ _ ?_
    conv => whnf
    refine ⟨vp_in_nI (by show j < 20; omega) (by decide), ?_⟩
    conv => whnf
    rw [nI_clamp (n := j) (by omega), r1, tb_i (pwN20 n20 rn.1) (by omega), if_neg (by rw [no j (by omega)]; decide)]
    refine ⟨fun c => absurd rfl c, fun _ => ?_⟩
    refine am_run hX 2 _ _ _ _ ?_
    conv => whnf
    rw [nI_1]
    exact ih (j + 1) (by omega)
/-- the rows when k comes next -/
def mzK (w i k : Nat) (f : RW → RW → RW) (Y : Nat → RW) (j : Nat) : RW := if (Y j).1.testBit w = true ∧ j ≠ i ∧ j < k then f (Y j) (Y i) else Y j
theorem wA_F {i : Nat} {y : RW} : taF M (wA M i y) := by
  refine ⟨fun k hk => ?_, fun j _ => rfl, rfl⟩
  simp [wA, mm_i, show k ≠ 26 by omega, show k ≠ 27 by omega, show k ≠ 28 by omega]
theorem wA_ne {i j : Nat} {y z : RW} (h : j ≠ i) (hz : rA M j z) : rA (wA M i y) j z := by
  obtain ⟨a, b, c⟩ := hz
  refine ⟨?_, ?_, ?_⟩
  · show upd (M.1 26) i (nI y.1) j = nI z.1
    unfold upd
    rw [if_neg h]
    exact a
  · show upd (M.1 27) i (nI y.2.1) j = nI z.2.1
    unfold upd
    rw [if_neg h]
    exact b
  · show upd (M.1 28) i (nI y.2.2) j = nI z.2.2
    unfold upd
    rw [if_neg h]
    exact c
set_option maxRecDepth 100000 in
theorem ob_m {v2 : Int32} {i : Nat} {Pp : am_Q} {X : am_X} (hX : am_K (d + 3) false nm_X8_observe Pp X) (n20 : n ≤ 20) (hw : w < n) (h3 : M.1 25 3 = nI n) (hY : ∀ j, j < n → rw_n n (Y j)) (hi : fiR n w Y i) (hK : ∀ N, taF M N → N.1 25 4 = M.1 25 4 → (∀ j, j < n → rA N j (mzK w i n mulA Y j)) → X 84 [some (aR 25), some (aI (nI w)), some (aI v2), some (aI (nI i)), some (aI (nI n))] [] N) : ∀ m k N, k + m = n → i < k → taF M N → N.1 25 4 = M.1 25 4 → (∀ j, j < n → rA N j (mzK w i k mulA Y j)) → X 48 [some (aR 25), some (aI (nI w)), some (aI v2), some (aI (nI i)), some (aI (nI k))] [] N := by
  have il := hi.1
  intro m
  induction m with
  | zero =>
    intro k N hk ik hf h4 h
    have hk : k = n := by omega
    subst hk
    refine am_run hX 4 _ _ _ _ ?_
    conv => whnf
    rw [hf.2.1 3 (by decide), h3]
    exact ⟨fun _ => hK N hf h4 h, fun c => absurd (nI_le (by omega) (by omega)) c⟩
  | succ m ih =>
    intro k N hk ik hf h4 h
    have kn : k < n := by omega
    have rk := h k kn
    have ri := h i il
    have ek : mzK w i k mulA Y k = Y k := if_neg (by omega)
    have ei : mzK w i k mulA Y i = Y i := if_neg (by omega)
    rw [ek] at rk
    rw [ei] at ri
    have next : ∀ N', taF M N' → N'.1 25 4 = M.1 25 4 → (∀ j, j < n → rA N' j (mzK w i (k + 1) mulA Y j)) → X 78 [some (aR 25), some (aI (nI w)), some (aI v2), some (aI (nI i)), some (aI (nI k))] [] N' := fun N' f' h4' h' => by
      refine am_run hX 2 _ _ _ _ ?_
      conv => whnf
      rw [nI_1]
      exact ih (k + 1) N' (by omega) (by omega) f' h4' h'
    have eo : ∀ j, j ≠ k → mzK w i (k + 1) mulA Y j = mzK w i k mulA Y j := fun j hj => by
      unfold mzK
      by_cases q : (Y j).1.testBit w = true ∧ j ≠ i ∧ j < k
      · rw [if_pos q, if_pos ⟨q.1, q.2.1, by omega⟩]
      · rw [if_neg q, if_neg fun z => q ⟨z.1, z.2.1, by omega⟩]
    refine am_run hX 4 _ _ _ _ ?_
    conv => whnf
    rw [hf.2.1 3 (by decide), h3]
    refine ⟨fun c => absurd c (nI_ge (by omega) (by omega)), fun _ => ?_⟩
    refine am_run hX 9 _ _ _ _ ?_
    conv => whnf
    refine ⟨vp_in_nI (by show k < 20; omega) (by decide), ?_⟩
    conv => whnf
    rw [nI_clamp (n := k) (by omega), rk.1, tb_i (pwN20 n20 (hY k kn).1) (by omega)]
    by_cases c : (Y k).1.testBit w = true
    · rw [if_pos c]
      refine ⟨fun z => absurd z (by decide), fun _ => ?_⟩
      refine am_run hX 4 _ _ _ _ ?_
      conv => whnf
      refine am_c0 (ct_mulA (d := d) (M := N) (by omega) (by omega) (by omega) rk ri (rn_ok n20 (hY k kn)) (rn_ok n20 (hY i il))) ?_
      conv => whnf
      refine next _ (taF_t hf wA_F) h4 fun j hj => ?_
      by_cases jk : j = k
      · rw [jk, show mzK w i (k + 1) mulA Y k = mulA (Y k) (Y i) from if_pos ⟨c, by omega, by omega⟩]
        exact rA_w
      · rw [eo j jk]
        exact wA_ne jk (h j hj)
    · rw [if_neg c]
      refine ⟨fun _ => next N hf h4 fun j hj => ?_, fun z => absurd rfl z⟩
      by_cases jk : j = k
      · rw [jk, show mzK w i (k + 1) mulA Y k = Y k from if_neg fun z => c z.1]
        exact rk
      · rw [eo j jk]
        exact h j hj
theorem mz_e {i b : Nat} {f : RW → RW → RW} (j : Nat) (hj : j < n) (hne : j ≠ i) : mzR n w b i f Y j = mzK w i n f Y j := by
  unfold mzR mzK
  rw [if_neg hne]
  by_cases c : (Y j).1.testBit w = true
  · rw [if_pos c, if_pos ⟨c, hne, hj⟩]
  · rw [if_neg c, if_neg fun z => c z.1]
set_option maxRecDepth 100000 in
theorem ct_obs {b : Nat} (hb : b < 2) (n20 : n ≤ 20) (hw : w < n) (h3 : M.1 25 3 = nI n) (hY : ∀ j, j < n → rw_n n (Y j) ∧ rA M j (Y j)) (h4 : M.1 25 4 = 0 ∨ M.1 25 4 = 1 ∧ Y = redR n Y) : am_M (d + 6) false nm_X8_observe [aR 25, aI (nI w), aI (nI b)] M (fun t N => (nxb n w Y ∧ t = .inl (some (aI (nI (sgZ n w (redR n Y) n).2))) ∧ (N = M ∧ Y = redR n Y ∨ N = strM M n Y)) ∨ ∃ i, fiR n w Y i ∧ t = .inl (some (aI (nI (b + 2)))) ∧ taF M N ∧ N.1 25 4 = 0 ∧ ∀ j, j < n → rA N j (mzR n w b i mulA Y j)) := by
  refine ⟨rfl, rfl, rfl, fun X hX => am_run hX 2 _ _ _ _ ?_⟩
  conv => whnf
  rcases fi_or n w Y with nx | ⟨i, hi⟩
  · refine ob_s (i := n) hX n20 hw h3 hY (Or.inl ⟨rfl, nx⟩) ?_ n 0 (by omega)
    refine am_run hX 4 _ _ _ _ ?_
    conv => whnf
    rw [h3]
    refine ⟨fun c => absurd rfl c, fun _ => ?_⟩
    refine am_run hX 3 _ _ _ _ ?_
    conv => whnf
    refine am_cq (ct_sgZ (d := d) n20 hw h3 hY h4) ?_
    rintro t N ⟨rfl, hN⟩
    refine ⟨_, rfl, ?_⟩
    conv => whnf
    refine am_run hX 1 _ _ _ _ ?_
    conv => whnf
    exact ⟨trivial, Or.inl ⟨nx, rfl, hN⟩⟩
  · have il := hi.1
    refine ob_s (i := i) hX n20 hw h3 hY (Or.inr hi) ?_ i 0 (by omega)
    refine am_run hX 4 _ _ _ _ ?_
    conv => whnf
    rw [h3]
    refine ⟨fun _ => ?_, fun c => absurd (fun z => by have := (nI_eq (by omega) (by omega)).mp z; omega) c⟩
    refine am_run hX 4 _ _ _ _ ?_
    conv => whnf
    rw [nI_1]
    refine ob_m (d := d + 2) (M := M) hX n20 hw h3 (fun j hj => (hY j hj).1) hi (fun N f1 g4 r1 => ?_) (n - (i + 1)) (i + 1) M (by omega) (by omega) (taF_r M) rfl (fun j hj => ?_)
    · refine am_run hX 7 _ _ _ _ ?_
      conv => whnf
      rw [sh2 w (by omega)]
      refine am_c0 (ct_setRow (d := d + 4) (M := N) (r := i) (n := n) 0 (nI (2 ^ w)) (by omega) ((f1.2.1 3 (by decide)).trans h3) n20) ?_
      conv => whnf
      refine am_run hX 5 _ _ _ _ ?_
      conv => whnf
      refine ⟨vp_in_nI (by show i < 20; omega) (by decide), ?_⟩
      conv => whnf
      rw [nI_clamp (n := i) (by omega)]
      refine am_run hX 4 _ _ _ _ ?_
      conv => whnf
      rw [show (2 : Int32) = nI 2 from rfl, nI_add]
      refine ⟨trivial, Or.inr ⟨i, hi, rfl, taF_t f1 ⟨fun k hk => ?_, fun j hj => ?_, rfl⟩, rfl, fun j hj => ?_⟩⟩
      · simp [sr, mm_i, show k ≠ 25 by omega, show k ≠ 26 by omega, show k ≠ 27 by omega, show k ≠ 28 by omega]
      · show upd (upd (N.1 25) 3 (nI (max n (i + 1)))) 4 0 j = N.1 25 j
        unfold upd
        rw [if_neg hj]
        by_cases c : j = 3
        · rw [if_pos c, c, f1.2.1 3 (by decide), h3, show max n (i + 1) = n by omega]
        · rw [if_neg c]
      · by_cases e : j = i
        · subst e
          rw [show mzR n w b j mulA Y j = (0, 2 ^ w, b) from if_pos rfl]
          refine ⟨?_, ?_, ?_⟩
          · show upd (N.1 26) j 0 j = nI 0
            exact if_pos rfl
          · show upd (N.1 27) j (nI (2 ^ w)) j = nI (2 ^ w)
            exact if_pos rfl
          · show upd (upd (N.1 28) j 0) j (nI b) j = nI b
            exact if_pos rfl
        · rw [mz_e j hj e]
          obtain ⟨s1, s2, s3⟩ := r1 j hj
          refine ⟨?_, ?_, ?_⟩
          · show upd (N.1 26) i 0 j = _
            unfold upd
            rw [if_neg e]
            exact s1
          · show upd (N.1 27) i (nI (2 ^ w)) j = _
            unfold upd
            rw [if_neg e]
            exact s2
          · show upd (upd (N.1 28) i 0) i (nI b) j = _
            unfold upd
            rw [if_neg e, if_neg e]
            exact s3
    · have e : mzK w i (i + 1) mulA Y j = Y j := by
        unfold mzK
        refine if_neg fun z => ?_
        have := hi.2.2 j (by omega)
        rw [this] at z
        exact absurd z.1 (by decide)
      rw [e]
      exact (hY j hj).2
end MSC
