/-! code: do the rows commute, does one depend on those ahead: the class -/
def qmB (x z u v : Nat) : Bool := decide ((pc (x &&& v) + pc (z &&& u)) % 2 = 0)
theorem qmB_s (x z u v : Nat) : qmB u v x z = qmB x z u v := by
  unfold qmB
  rw [Nat.and_comm u z, Nat.and_comm v x, Nat.add_comm]
/-- row i commutes with so many -/
def alQ (x z : Nat → Nat) (i : Nat) : Nat → Bool
  | 0 => true
  | j + 1 => alQ x z i j && qmB (x i) (z i) (x j) (z j)
/-- the product of a set of rows -/
def pxr (f : Nat → Nat) (e : Nat) : Nat → Nat
  | 0 => 0
  | k + 1 => pxr f e k ^^^ (if e / 2 ^ k % 2 = 1 then f k else 0)
def deB (x z : Nat → Nat) (i : Nat) : Nat → Bool
  | 0 => false
  | e + 1 => deB x z i e || (decide (pxr x e i = x i) && decide (pxr z e i = z i))
/-- what is wrong with row i -/
def chK (x z : Nat → Nat) (i : Nat) : Nat := if alQ x z i i = false then 2 else if deB x z i (2 ^ i) = true then 3 else 0
/-- the first row that is wrong -/
def chF (x z : Nat → Nat) : Nat → Nat × Nat
  | 0 => (0, 0)
  | i + 1 => if (chF x z i).1 = 0 then (chK x z i, i) else chF x z i
theorem xor_lt8 {a b : Nat} (ha : a < 256) (hb : b < 256) : a ^^^ b < 256 := Nat.xor_lt_two_pow (n := 8) ha hb
theorem xor_256 {a b c e : Nat} (ha : a < 256) (hc : c < 256) : (a + 256 * b) ^^^ (c + 256 * e) = (a ^^^ c) + 256 * (b ^^^ e) := by
  have m1 : (a + 256 * b) % 2 ^ 8 = a := by omega
  have m2 : (a + 256 * b) / 2 ^ 8 = b := by omega
  have m3 : (c + 256 * e) % 2 ^ 8 = c := by omega
  have m4 : (c + 256 * e) / 2 ^ 8 = e := by omega
  rw [← Nat.mod_add_div ((a + 256 * b) ^^^ (c + 256 * e)) (2 ^ 8), Nat.xor_mod_two_pow, Nat.xor_div_two_pow, m1, m2, m3, m4]
theorem pxr_lt {f : Nat → Nat} {e : Nat} : ∀ {i : Nat}, (∀ j, j < i → f j < 256) → pxr f e i < 256
  | 0, _ => by show 0 < 256; decide
  | k + 1, h => by
    have h1 := pxr_lt (e := e) (i := k) (fun j hj => h j (by omega))
    unfold pxr
    split
    · exact xor_lt8 h1 (h k (by omega))
    · exact xor_lt8 h1 (by decide)
theorem xor_0 {a b : Nat} : a ^^^ b = 0 ↔ b = a := by
  constructor
  · intro h
    have : a ^^^ (a ^^^ b) = a ^^^ 0 := by rw [h]
    rw [← Nat.xor_assoc, Nat.xor_self, Nat.zero_xor, Nat.xor_zero] at this
    exact this
  · intro h
    rw [h, Nat.xor_self]
section CHK
variable {d : Nat} {M : mm_M} {x z : Nat → Nat}
set_option maxRecDepth 100000 in
theorem ct_cmC {a b u v : Nat} (ha : a < 256) (hb : b < 256) (hu : u < 256) (hv : v < 256) : am_M (d + 2) false nm_X3_commute [aI (nI (a + 256 * b)), aI (nI (u + 256 * v))] M (am_q1 (aI (if qmB a b u v = true then 1 else 0)) M) := by
  have e1 : (a + 256 * b) % 256 = a := by omega
  have e2 : (a + 256 * b) / 256 = b := by omega
  have e3 : (u + 256 * v) / 256 = v := by omega
  have e4 : b &&& (u + 256 * v) = b &&& u := by
    have := and_m (a := b) (b := u + 256 * v) hb
    rw [← this]
    congr 1
    omega
  have l1 : a &&& v < 65536 := Nat.lt_of_le_of_lt Nat.and_le_left (by omega)
  have l2 : b &&& u < 65536 := Nat.lt_of_le_of_lt Nat.and_le_left (by omega)
  refine ⟨rfl, rfl, rfl, fun X hX => am_run hX 30 _ _ _ _ ?_⟩
  conv => whnf
  rw [nI_m255, e1, nI_s8 (by omega), e3, nI_and]
  refine am_c1 (ct_bit16 _ _ l1 _) ?_
  conv => whnf
  rw [nI_s8 (by omega), e2, nI_and, e4]
  refine am_c1 (ct_bit16 _ _ l2 _) ?_
  conv => whnf
  rw [nI_add, nI_m1]
  refine ⟨fun c => ?_, fun c => ?_⟩
  · conv => whnf
    refine ⟨rfl, ?_, rfl⟩
    rw [if_neg]
    unfold qmB
    simp only [decide_eq_true_eq]
    exact fun y => c (by rw [y]; rfl)
  · conv => whnf
    refine ⟨rfl, ?_, rfl⟩
    rw [if_pos]
    unfold qmB
    simp only [decide_eq_true_eq]
    exact (nI_eq (b := 0) (by omega) (by decide)).mp (Classical.not_not.mp c)
/-- rows at the class -/
def cgV (M : mm_M) (x z : Nat → Nat) (n : Nat) : Prop := ∀ j, j < n → M.1 49 j = nI (x j + 256 * z j) ∧ x j < 256 ∧ z j < 256
set_option maxRecDepth 100000 in
theorem dp_i {P : am_Q} {X : am_X} {i e : Nat} (hX : am_K d false nm_X3_dependsOnAhead P X) (hi : i < 8) (he : e < 256) (hV : cgV M x z (i + 1)) (hk : ∀ l4, X 54 [some (aR 46), some (aI (nI i)), some (aI (nI e)), some (aI (nI ((x i ^^^ pxr x e i) + 256 * (z i ^^^ pxr z e i)))), l4] [] M) : ∀ (m j : Nat), j + m = i → X 19 [some (aR 46), some (aI (nI i)), some (aI (nI e)), some (aI (nI ((x i ^^^ pxr x e j) + 256 * (z i ^^^ pxr z e j)))), some (aI (nI j))] [] M := by
  intro m
  induction m with
  | zero =>
    intro j ej
    obtain rfl : j = i := by omega
    refine am_run hX 3 _ _ _ _ ?_
    conv => whnf
    exact ⟨fun _ => hk _, fun c => absurd (nI_le (Nat.le_refl _) (by omega)) c⟩
  | succ m ih =>
    intro j ej
    have ih := ih (j + 1) (by omega)
    obtain ⟨v1, v2, v3⟩ := hV j (by omega)
    have px : x i ^^^ pxr x e j < 256 := xor_lt8 (hV i (by omega)).2.1 (pxr_lt (fun k hk => (hV k (by omega)).2.1))
    have e49 : M.1 49 (nI j).toNatClampNeg = nI (x j + 256 * z j) := by
      rw [nI_clamp (by omega)]
      exact v1
    refine am_run hX 10 _ _ _ _ ?_
    conv => whnf
    refine ⟨fun c => absurd c (nI_ge (by omega) (by omega)), fun _ => ?_⟩
    conv => whnf
    rw [nI_sh (by omega) j (by omega), nI_m1]
    refine ⟨fun c => ?_, fun c => ?_⟩
    · have c0 : e / 2 ^ j % 2 = 0 := (nI_eq (b := 0) (by omega) (by decide)).mp c
      have c1 : ¬ e / 2 ^ j % 2 = 1 := by omega
      simp only [pxr, if_neg c1, Nat.xor_zero] at ih
      refine am_run hX 5 _ _ _ _ ?_
      conv => whnf
      rw [show (0 : Int32) = nI 0 from rfl, nI_xor, Nat.xor_zero, nI_1]
      exact ih
    · have c1 : e / 2 ^ j % 2 = 1 := by
        rcases Nat.mod_two_eq_zero_or_one (e / 2 ^ j) with y | y
        · exact absurd (by rw [y]; rfl) c
        · exact y
      simp only [pxr, if_pos c1] at ih
      refine am_run hX 9 _ _ _ _ ?_
      conv => whnf
      refine ⟨vp_in_nI (by show j < 8; omega) (by decide), ?_⟩
      conv => whnf
      rw [e49, nI_xor, xor_256 px v2, nI_1, Nat.xor_assoc, Nat.xor_assoc]
      exact ih
set_option maxRecDepth 100000 in
theorem dp_o {P : am_Q} {X : am_X} {i : Nat} (hX : am_K d false nm_X3_dependsOnAhead P X) (hi : i < 8) (hV : cgV M x z (i + 1)) (h1 : deB x z i (2 ^ i) = true → P (.inl (some (aI 1))) M) (h0 : deB x z i (2 ^ i) = false → P (.inl (some (aI 0))) M) : ∀ (m e : Nat) (l3 l4 : Option am_V), e + m = 2 ^ i → deB x z i e = false → X 2 [some (aR 46), some (aI (nI i)), some (aI (nI e)), l3, l4] [] M := by
  have h7 : 2 ^ i ≤ 2 ^ 7 := Nat.pow_le_pow_right (by decide) (by omega)
  have mono : ∀ m e, deB x z i e = true → deB x z i (e + m) = true := by
    intro m
    induction m with
    | zero => intro e h; exact h
    | succ m ihm =>
      intro e h
      show (deB x z i (e + m) || _) = true
      rw [ihm e h]
      rfl
  intro m
  induction m with
  | zero =>
    intro e l3 l4 em hd
    obtain rfl : e = 2 ^ i := by omega
    refine am_run hX 7 _ _ _ _ ?_
    conv => whnf
    rw [sh2 i (by omega)]
    refine ⟨fun _ => ?_, fun c => absurd (nI_le (Nat.le_refl _) (by omega)) c⟩
    conv => whnf
    exact ⟨rfl, h0 hd⟩
  | succ m ih =>
    intro e l3 l4 em hd
    have e49 : M.1 49 (nI i).toNatClampNeg = nI (x i + 256 * z i) := by
      rw [nI_clamp (by omega)]
      exact (hV i (by omega)).1
    have px : x i ^^^ pxr x e i < 256 := xor_lt8 (hV i (by omega)).2.1 (pxr_lt (fun k hk => (hV k (by omega)).2.1))
    have pz : z i ^^^ pxr z e i < 256 := xor_lt8 (hV i (by omega)).2.2 (pxr_lt (fun k hk => (hV k (by omega)).2.2))
    refine am_run hX 12 _ _ _ _ ?_
    conv => whnf
    rw [sh2 i (by omega)]
    refine ⟨fun c => absurd c (nI_ge (by omega) (by omega)), fun _ => ?_⟩
    conv => whnf
    refine ⟨vp_in_nI (by show i < 8; omega) (by decide), ?_⟩
    conv => whnf
    rw [e49]
    have hg := dp_i (d := d) (P := P) (X := X) (x := x) (z := z) (M := M) (i := i) (e := e) hX hi (by omega) hV (fun l4 => ?_) i 0 (by omega)
    · simp only [pxr, Nat.xor_zero] at hg
      exact hg
    · refine am_run hX 2 _ _ _ _ ?_
      conv => whnf
      refine ⟨fun c => ?_, fun c => ?_⟩
      · have hn : deB x z i (e + 1) = false := by
          show (deB x z i e || (decide (pxr x e i = x i) && decide (pxr z e i = z i))) = false
          rw [hd]
          by_cases y1 : pxr x e i = x i
          · by_cases y2 : pxr z e i = z i
            · exact absurd (by rw [xor_0.mpr y1, xor_0.mpr y2]; rfl) c
            · simp [y2]
          · simp [y1]
        refine am_run hX 2 _ _ _ _ ?_
        conv => whnf
        rw [nI_1]
        exact ih (e + 1) _ _ (by omega) hn
      · have hz : (x i ^^^ pxr x e i) + 256 * (z i ^^^ pxr z e i) = 0 := (nI_eq (b := 0) (by omega) (by decide)).mp (Classical.not_not.mp c)
        have y1 := xor_0.mp (show x i ^^^ pxr x e i = 0 by omega)
        have y2 := xor_0.mp (show z i ^^^ pxr z e i = 0 by omega)
        have hy : deB x z i (e + 1) = true := by
          show (deB x z i e || (decide (pxr x e i = x i) && decide (pxr z e i = z i))) = true
          simp [y1, y2]
        have hy2 := mono m (e + 1) hy
        rw [show e + 1 + m = 2 ^ i by omega] at hy2
        refine am_run hX 2 _ _ _ _ ?_
        conv => whnf
        exact ⟨rfl, h1 hy2⟩
set_option maxRecDepth 100000 in
theorem ct_dep {i : Nat} (hi : i < 8) (hV : cgV M x z (i + 1)) : am_M (d + 1) false nm_X3_dependsOnAhead [aR 46, aI (nI i)] M (am_q1 (aI (if deB x z i (2 ^ i) = true then 1 else 0)) M) := by
  refine ⟨rfl, rfl, rfl, fun X hX => am_run hX 2 _ _ _ _ ?_⟩
  conv => whnf
  refine dp_o (d := d) hX hi hV (fun h => ⟨by rw [if_pos h], rfl⟩) (fun h => ⟨by rw [if_neg (by rw [h]; decide)], rfl⟩) (2 ^ i) 0 none none (by omega) rfl
theorem alQ_m {i j : Nat} (h : alQ x z i j = false) : ∀ m, alQ x z i (j + m) = false
  | 0 => h
  | m + 1 => by
    show (alQ x z i (j + m) && _) = false
    rw [alQ_m h m]
    rfl
theorem chF_m {i : Nat} (h : (chF x z i).1 ≠ 0) : ∀ m, chF x z (i + m) = chF x z i
  | 0 => rfl
  | m + 1 => by
    have := chF_m h m
    show (if (chF x z (i + m)).1 = 0 then _ else chF x z (i + m)) = _
    rw [this, if_neg h]
/-- what checkRows leaves -/
def ckQ (M : mm_M) (x z pl : Nat → Nat) (n : Nat) : am_Q := fun r N => r = .inl none ∧ if (chF x z n).1 = 0 then N = M else N = mm_i M 46 (upd (upd (M.1 46) 15 (nI (chF x z n).1)) 16 (nI (pl (chF x z n).2)))
set_option maxRecDepth 100000 in
theorem ck_j {X : am_X} {n i : Nat} {pl : Nat → Nat} (hX : am_K (d + 2) false nm_X3_checkRows (ckQ M x z pl n) X) (hn : n ≤ 8) (hi : i < n) (hV : cgV M x z n) (hp : ∀ j, j < n → M.1 50 j = nI (pl j)) (hc : (chF x z i).1 = 0) (hk : alQ x z i i = true → ∀ l2, X 60 [some (aR 46), some (aI (nI i)), l2] [] M) : ∀ (m j : Nat), j + m = i → alQ x z i j = true → X 19 [some (aR 46), some (aI (nI i)), some (aI (nI j))] [] M := by
  intro m
  induction m with
  | zero =>
    intro j ej ha
    obtain rfl : j = i := by omega
    refine am_run hX 3 _ _ _ _ ?_
    conv => whnf
    exact ⟨fun _ => hk ha _, fun c => absurd (nI_le (Nat.le_refl _) (by omega)) c⟩
  | succ m ih =>
    intro j ej ha
    obtain ⟨v1, v2, v3⟩ := hV j (by omega)
    obtain ⟨w1, w2, w3⟩ := hV i hi
    refine am_run hX 13 _ _ _ _ ?_
    conv => whnf
    refine ⟨fun c => absurd c (nI_ge (by omega) (by omega)), fun _ => ?_⟩
    conv => whnf
    refine ⟨vp_in_nI (by show i < 8; omega) (by decide), ?_⟩
    conv => whnf
    refine ⟨vp_in_nI (by show j < 8; omega) (by decide), ?_⟩
    conv => whnf
    rw [nI_clamp (n := i) (by omega), nI_clamp (n := j) (by omega), v1, w1]
    refine am_c1 (ct_cmC (d := d) w2 w3 v2 v3) ?_
    by_cases hq : qmB (x i) (z i) (x j) (z j) = true
    · rw [if_pos hq]
      conv => whnf
      refine ⟨fun _ => ?_, fun c => absurd (by decide) c⟩
      refine am_run hX 2 _ _ _ _ ?_
      conv => whnf
      rw [nI_1]
      refine ih (j + 1) (by omega) ?_
      show (alQ x z i j && qmB (x i) (z i) (x j) (z j)) = true
      rw [ha, hq]
      rfl
    · rw [if_neg hq]
      have h2 : alQ x z i (j + 1) = false := by
        show (alQ x z i j && qmB (x i) (z i) (x j) (z j)) = false
        rw [Bool.eq_false_iff.mpr hq, Bool.and_false]
      have h3 := alQ_m h2 m
      rw [show j + 1 + m = i by omega] at h3
      have h4 : chF x z (i + 1) = (2, i) := by
        show (if (chF x z i).1 = 0 then (chK x z i, i) else _) = _
        rw [if_pos hc]
        unfold chK
        rw [if_pos h3]
      have h5 := chF_m (x := x) (z := z) (i := i + 1) (by rw [h4]; show ¬ 2 = 0; decide) (n - (i + 1))
      rw [show i + 1 + (n - (i + 1)) = n by omega, h4] at h5
      conv => whnf
      refine ⟨fun c => absurd rfl c, fun _ => ?_⟩
      refine am_run hX 8 _ _ _ _ ?_
      conv => whnf
      refine ⟨vp_in_nI (by show i < 8; omega) (by decide), ?_⟩
      conv => whnf
      rw [nI_clamp (n := i) (by omega), hp i hi]
      refine am_c0 (ct_tellF (d := d + 1)) ?_
      conv => whnf
      refine ⟨trivial, rfl, ?_⟩
      rw [h5, if_neg (show ¬ 2 = 0 by decide)]
      rfl
set_option maxRecDepth 100000 in
theorem ck_i {X : am_X} {n : Nat} {pl : Nat → Nat} (hX : am_K (d + 2) false nm_X3_checkRows (ckQ M x z pl n) X) (hn : n ≤ 8) (h13 : M.1 46 13 = nI n) (h15 : M.1 46 15 = 0) (hV : cgV M x z n) (hp : ∀ j, j < n → M.1 50 j = nI (pl j)) : ∀ (m i : Nat) (l2 : Option am_V), i + m = n → (chF x z i).1 = 0 → X 2 [some (aR 46), some (aI (nI i)), l2] [] M := by
  intro m
  induction m with
  | zero =>
    intro i l2 ei hc
    obtain rfl : i = n := by omega
    refine am_run hX 5 _ _ _ _ ?_
    conv => whnf
    rw [h13]
    refine ⟨fun _ => ?_, fun c => absurd (nI_le (Nat.le_refl _) (by omega)) c⟩
    conv => whnf
    refine ⟨trivial, rfl, ?_⟩
    rw [if_pos hc]
  | succ m ih =>
    intro i l2 ei hc
    refine am_run hX 9 _ _ _ _ ?_
    conv => whnf
    rw [h13]
    refine ⟨fun c => absurd c (nI_ge (by omega) (by omega)), fun _ => ?_⟩
    conv => whnf
    rw [h15]
    refine ⟨fun c => absurd rfl c, fun _ => ?_⟩
    conv => whnf
    refine ck_j (d := d) hX hn (by omega) hV hp hc (fun ha l2 => ?_) i 0 (by omega) rfl
    refine am_run hX 4 _ _ _ _ ?_
    conv => whnf
    refine am_c1 (ct_dep (d := d + 1) (x := x) (z := z) (by omega) (fun j hj => hV j (by omega))) ?_
    have hE : chF x z (i + 1) = (chK x z i, i) := if_pos hc
    by_cases hd : deB x z i (2 ^ i) = true
    · rw [if_pos hd]
      have h4 : chF x z (i + 1) = (3, i) := by
        rw [hE]
        unfold chK
        rw [if_neg (by rw [ha]; decide), if_pos hd]
      have h5 := chF_m (x := x) (z := z) (i := i + 1) (by rw [h4]; show ¬ 3 = 0; decide) (n - (i + 1))
      rw [show i + 1 + (n - (i + 1)) = n by omega, h4] at h5
      have hend : ckQ M x z pl n (.inl none) (mm_i M 46 (upd (upd (M.1 46) 15 3) 16 (nI (pl i)))) := by
        refine ⟨rfl, ?_⟩
        rw [h5, if_neg (show ¬ 3 = 0 by decide)]
        rfl
      conv => whnf
      refine ⟨fun c => absurd c (by decide), fun _ => ?_⟩
      refine am_run hX 9 _ _ _ _ ?_
      conv => whnf
      refine ⟨vp_in_nI (by show i < 8; omega) (by decide), ?_⟩
      conv => whnf
      rw [nI_clamp (n := i) (by omega), hp i (by omega)]
      refine am_c0 (ct_tellF (d := d + 1)) ?_
      conv => whnf
      refine am_run hX 8 _ _ _ _ ?_
      conv => whnf
      rw [show (mm_i M 46 (upd (upd (M.1 46) 15 3) 16 (nI (pl i)))).1 46 13 = nI n from h13]
      refine ⟨fun _ => ?_, fun _ => ?_⟩
      · conv => whnf
        exact ⟨trivial, hend⟩
      · conv => whnf
        refine ⟨fun _ => ?_, fun c => absurd (show ¬ (3 : Int32) = 0 by decide) c⟩
        conv => whnf
        exact ⟨trivial, hend⟩
    · rw [if_neg hd]
      conv => whnf
      refine ⟨fun _ => ?_, fun c => absurd rfl c⟩
      refine am_run hX 2 _ _ _ _ ?_
      conv => whnf
      rw [nI_1]
      refine ih (i + 1) _ (by omega) ?_
      rw [hE]
      unfold chK
      rw [if_neg (by rw [ha]; decide), if_neg hd]
set_option maxRecDepth 100000 in
theorem ct_chk {n : Nat} {pl : Nat → Nat} (hn : n ≤ 8) (h13 : M.1 46 13 = nI n) (h15 : M.1 46 15 = 0) (hV : cgV M x z n) (hp : ∀ j, j < n → M.1 50 j = nI (pl j)) : am_M (d + 3) false nm_X3_checkRows [aR 46] M (ckQ M x z pl n) := by
  refine ⟨rfl, rfl, rfl, fun X hX => am_run hX 2 _ _ _ _ ?_⟩
  conv => whnf
  exact ck_i (d := d) hX hn h13 h15 hV hp n 0 none (by omega) rfl
end CHK
