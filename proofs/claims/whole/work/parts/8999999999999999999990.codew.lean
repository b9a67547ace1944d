/-! CODES: weights, and what the class looks up -/
/-- how many letters of the first k are no 1 -/
def wN : Nat → Nat → Nat
  | 0, _ => 0
  | k + 1, x => wN k x + (if x / 4 ^ k % 4 = 0 then 0 else 1)
theorem wN_le : ∀ k x, wN k x ≤ k
  | 0, _ => Nat.le_refl _
  | k + 1, x => by
    have := wN_le k x
    show wN k x + (if x / 4 ^ k % 4 = 0 then 0 else 1) ≤ k + 1
    by_cases h : x / 4 ^ k % 4 = 0
    · rw [if_pos h]; omega
    · rw [if_neg h]; omega
theorem wN_s : ∀ k x, wN (k + 1) x = (if x % 4 = 0 then 0 else 1) + wN k (x / 4)
  | 0, x => by
    show 0 + (if x / 4 ^ 0 % 4 = 0 then 0 else 1) = _ + 0
    rw [Nat.pow_zero, Nat.div_one]
    omega
  | k + 1, x => by
    show wN (k + 1) x + (if x / 4 ^ (k + 1) % 4 = 0 then 0 else 1) = _ + (wN k (x / 4) + (if x / 4 / 4 ^ k % 4 = 0 then 0 else 1))
    rw [wN_s k x, Nat.div_div_eq_div_mul, show 4 * 4 ^ k = 4 ^ (k + 1) by rw [Nat.pow_succ, Nat.mul_comm]]
    omega
theorem wN_0 : ∀ j k x, x < 4 ^ k → wN (k + j) x = wN k x
  | 0, k, x, _ => rfl
  | j + 1, k, x, h => by
    show wN (k + j) x + (if x / 4 ^ (k + j) % 4 = 0 then 0 else 1) = wN k x
    have : x < 4 ^ (k + j) := Nat.lt_of_lt_of_le h (Nat.pow_le_pow_right (by decide) (by omega))
    rw [wN_0 j k x h, Nat.div_eq_of_lt this, if_pos rfl, Nat.add_zero]
def mk4 : Nat → Nat
  | 0 => 0
  | k + 1 => 4 * mk4 k + 1
theorem pcn_w : ∀ k x, pcn (2 * k) ((x ||| x / 2) &&& mk4 k) = wN k x
  | 0, x => rfl
  | k + 1, x => by
    rw [wN_s]
    have h4 : ((x ||| x / 2) &&& mk4 (k + 1)) / 4 = (x / 4 ||| x / 4 / 2) &&& mk4 k := by
      have a : ((x ||| x / 2) &&& mk4 (k + 1)) / 2 ^ 2 = (x ||| x / 2) / 2 ^ 2 &&& mk4 (k + 1) / 2 ^ 2 := Nat.and_div_two_pow
      have b : (x ||| x / 2) / 2 ^ 2 = x / 2 ^ 2 ||| x / 2 / 2 ^ 2 := Nat.or_div_two_pow
      rw [b] at a
      have c : mk4 (k + 1) / 2 ^ 2 = mk4 k := by
        show (4 * mk4 k + 1) / 4 = mk4 k
        omega
      rw [c] at a
      have e : x / 2 / 2 ^ 2 = x / 4 / 2 := by omega
      rw [e] at a
      exact a
    have m4 : ((x ||| x / 2) &&& mk4 (k + 1)) % 4 = (if x % 4 = 0 then 0 else 1) := by
      have a : ((x ||| x / 2) &&& mk4 (k + 1)) % 2 ^ 2 = (x ||| x / 2) % 2 ^ 2 &&& mk4 (k + 1) % 2 ^ 2 := Nat.and_mod_two_pow
      have b : (x ||| x / 2) % 2 ^ 2 = x % 2 ^ 2 ||| x / 2 % 2 ^ 2 := Nat.or_mod_two_pow
      rw [b] at a
      have c : mk4 (k + 1) % 2 ^ 2 = 1 := by
        show (4 * mk4 k + 1) % 4 = 1
        omega
      rw [c] at a
      have e : ∀ u, u < 4 → ∀ v, v < 4 → v % 2 = u / 2 → (u ||| v) &&& 1 = if u = 0 then 0 else 1 := by decide
      rw [e (x % 2 ^ 2) (Nat.mod_lt _ (by decide)) (x / 2 % 2 ^ 2) (Nat.mod_lt _ (by decide)) (by omega)] at a
      exact a
    generalize (x ||| x / 2) &&& mk4 (k + 1) = y at *
    show y % 2 + (y / 2 % 2 + pcn (2 * k) (y / 2 / 2)) = _
    rw [show y / 2 / 2 = y / 4 by omega, h4, pcn_w k (x / 4)]
    by_cases h : x % 4 = 0
    · rw [if_pos h] at m4 ⊢; omega
    · rw [if_neg h] at m4 ⊢; omega
theorem pcn_a : ∀ j k n, n < 2 ^ k → pcn (k + j) n = pcn k n
  | j, 0, n, h => by
    have h : n = 0 := by
      have : (2 : Nat) ^ 0 = 1 := rfl
      omega
    subst h
    rw [Nat.zero_add]
    induction j with
    | zero => rfl
    | succ j ih =>
      show 0 % 2 + pcn j (0 / 2) = 0
      rw [show 0 / 2 = 0 from rfl, ih]
      rfl
  | j, k + 1, n, h => by
    rw [show k + 1 + j = (k + j) + 1 by omega]
    show n % 2 + pcn (k + j) (n / 2) = n % 2 + pcn k (n / 2)
    rw [pcn_a j k (n / 2) (by rw [Nat.pow_succ] at h; omega)]
/-- the class's weight -/
theorem cw_w {x : Nat} : ((x ||| x / 2) &&& 21845) < 65536 ∧ pc ((x ||| x / 2) &&& 21845) = wN 8 x := by
  have l : ((x ||| x / 2) &&& 21845) < 65536 := Nat.lt_of_le_of_lt Nat.and_le_right (by decide)
  refine ⟨l, ?_⟩
  unfold pc
  rw [show (32 : Nat) = 16 + 16 from rfl, pcn_a 16 16 _ l]
  exact pcn_w 8 x
section CDW
variable {d : Nat} {M : mm_M}
set_option maxRecDepth 100000 in
theorem ct_wOf {x : Nat} (hx : x < 65536) : am_M (d + 2) false nm_X3_weightOf [aR 46, aI (nI x)] M (am_q1 (aI (nI (wN 8 x))) M) := by
  obtain ⟨l, e⟩ := cw_w (x := x)
  refine ⟨rfl, rfl, rfl, fun X hX => am_run hX 8 _ _ _ _ ?_⟩
  conv => whnf
  rw [show (1 : Int32) &&& 31 = nI 1 &&& 31 from rfl, nI_sh (by omega) 1 (by decide), nI_or, show (21845 : Int32) = nI 21845 from rfl, nI_and, show 2 ^ 1 = 2 from rfl]
  refine am_c1 (ct_bit16 d _ l _) ?_
  rw [e]
  conv => whnf
  refine am_run hX 1 _ _ _ _ ?_
  conv => whnf
  exact ⟨trivial, rfl, rfl⟩
theorem or256 {y : Nat} (h : y < 256) : 256 ||| y = 256 + y := by
  have : ∀ y, y < 256 → 256 ||| y = 256 + y := by decide +kernel
  exact this y h
set_option maxRecDepth 100000 in
theorem ct_lk51 {x : Nat} (hx : x < 65536) : am_M (d + 1) false nm_X3_syndromeOf [aR 46, aI (nI x)] M (am_q1 (aI (M.1 51 (x % 256) ^^^ M.1 51 (256 + x / 256))) M) := by
  have hy : x / 256 < 256 := by omega
  refine ⟨rfl, rfl, rfl, fun X hX => am_run hX 6 _ _ _ _ ?_⟩
  conv => whnf
  rw [nI_m255]
  refine ⟨vp_in_nI (by show x % 256 < 512; omega) (by decide), ?_⟩
  conv => whnf
  refine am_run hX 10 _ _ _ _ ?_
  conv => whnf
  rw [show (8 : Int32) &&& 31 = nI 8 &&& 31 from rfl, nI_sh (by omega) 8 (by decide), nI_m255, show (256 : Int32) = nI 256 from rfl, nI_or, show x / 2 ^ 8 % 256 = x / 256 by omega, or256 hy]
  refine ⟨vp_in_nI (by show 256 + x / 256 < 512; omega) (by decide), ?_⟩
  conv => whnf
  rw [nI_clamp (n := x % 256) (by omega), nI_clamp (n := 256 + x / 256) (by omega)]
  refine am_run hX 2 _ _ _ _ ?_
  conv => whnf
  exact ⟨trivial, rfl, rfl⟩
set_option maxRecDepth 100000 in
theorem ct_lk52 {x : Nat} (hx : x < 65536) : am_M (d + 1) false nm_X3_restOf [aR 46, aI (nI x)] M (am_q1 (aI (M.1 52 (x % 256) ^^^ M.1 52 (256 + x / 256))) M) := by
  have hy : x / 256 < 256 := by omega
  refine ⟨rfl, rfl, rfl, fun X hX => am_run hX 6 _ _ _ _ ?_⟩
  conv => whnf
  rw [nI_m255]
  refine ⟨vp_in_nI (by show x % 256 < 512; omega) (by decide), ?_⟩
  conv => whnf
  refine am_run hX 10 _ _ _ _ ?_
  conv => whnf
  rw [show (8 : Int32) &&& 31 = nI 8 &&& 31 from rfl, nI_sh (by omega) 8 (by decide), nI_m255, show (256 : Int32) = nI 256 from rfl, nI_or, show x / 2 ^ 8 % 256 = x / 256 by omega, or256 hy]
  refine ⟨vp_in_nI (by show 256 + x / 256 < 512; omega) (by decide), ?_⟩
  conv => whnf
  rw [nI_clamp (n := x % 256) (by omega), nI_clamp (n := 256 + x / 256) (by omega)]
  refine am_run hX 2 _ _ _ _ ?_
  conv => whnf
  exact ⟨trivial, rfl, rfl⟩
set_option maxRecDepth 100000 in
theorem fi_l53 {v : Int32} {P : am_Q} {X : am_X} (hX : am_K d false nm_J7_fill_53178 P X) (hP : P (.inl none) (mm_i M 53 (fun j => if j < 256 then v else M.1 53 j))) : ∀ (m i : Nat), i + m = 256 → X 5 [some (aR 53), some (aI v), some (aI (nI i)), some (aI (nI 256))] [] (mm_i M 53 (fun j => if j < i then v else M.1 53 j)) := by
  intro m
  induction m with
  | zero =>
    intro i hi
    have hi : i = 256 := by omega
    subst hi
    refine am_run hX 4 _ _ _ _ ?_
    conv => whnf
    refine ⟨fun _ => ?_, fun c => absurd (by decide) c⟩
    conv => whnf
    exact ⟨trivial, hP⟩
  | succ m ih =>
    intro i hi
    refine am_run hX 3 _ _ _ _ ?_
    conv => whnf
    refine ⟨fun c => absurd c (nI_ge (by omega) (by decide)), fun _ => ?_⟩
    refine am_run hX 6 _ _ _ _ ?_
    conv => whnf
    refine ⟨vp_in_nI (by show _ < 256; omega) (by decide), ?_⟩
    conv => whnf
    rw [nI_clamp (n := i) (by omega), nI_1, mi_two, mm_i1]
    have e : upd (fun j => if j < i then v else M.1 53 j) i v = fun j => if j < i + 1 then v else M.1 53 j := by
      funext j
      unfold upd
      by_cases h : j = i
      · rw [if_pos h, if_pos (by omega)]
      · rw [if_neg h]
        dsimp only
        by_cases h2 : j < i
        · rw [if_pos h2, if_pos (by omega)]
        · rw [if_neg h2, if_neg (by omega)]
    rw [e]
    exact ih (i + 1) (by omega)
set_option maxRecDepth 100000 in
theorem ct_fi53 {v : Int32} : am_M (d + 1) false nm_J7_fill_53178 [aR 53, aI v] M (am_q0 (mm_i M 53 (fun j => if j < 256 then v else M.1 53 j))) := by
  refine ⟨rfl, rfl, rfl, fun X hX => am_run hX 5 _ _ _ _ ?_⟩
  conv => whnf
  have key := fi_l53 (M := M) (v := v) hX ⟨rfl, rfl⟩ 256 0 (by omega)
  have e : (fun j => if j < 0 then v else M.1 53 j) = M.1 53 := by
    funext j
    rw [if_neg (by omega)]
  rw [e, mm_iz] at key
  exact key
set_option maxRecDepth 100000 in
theorem fi_l54 {v : Int32} {P : am_Q} {X : am_X} (hX : am_K d false nm_J7_fill_53178 P X) (hP : P (.inl none) (mm_i M 54 (fun j => if j < 9 then v else M.1 54 j))) : ∀ (m i : Nat), i + m = 9 → X 5 [some (aR 54), some (aI v), some (aI (nI i)), some (aI (nI 9))] [] (mm_i M 54 (fun j => if j < i then v else M.1 54 j)) := by
  intro m
  induction m with
  | zero =>
    intro i hi
    have hi : i = 9 := by omega
    subst hi
    refine am_run hX 4 _ _ _ _ ?_
    conv => whnf
    refine ⟨fun _ => ?_, fun c => absurd (by decide) c⟩
    conv => whnf
    exact ⟨trivial, hP⟩
  | succ m ih =>
    intro i hi
    refine am_run hX 3 _ _ _ _ ?_
    conv => whnf
    refine ⟨fun c => absurd c (nI_ge (by omega) (by decide)), fun _ => ?_⟩
    refine am_run hX 6 _ _ _ _ ?_
    conv => whnf
    refine ⟨vp_in_nI (by show _ < 9; omega) (by decide), ?_⟩
    conv => whnf
    rw [nI_clamp (n := i) (by omega), nI_1, mi_two, mm_i1]
    have e : upd (fun j => if j < i then v else M.1 54 j) i v = fun j => if j < i + 1 then v else M.1 54 j := by
      funext j
      unfold upd
      by_cases h : j = i
      · rw [if_pos h, if_pos (by omega)]
      · rw [if_neg h]
        dsimp only
        by_cases h2 : j < i
        · rw [if_pos h2, if_pos (by omega)]
        · rw [if_neg h2, if_neg (by omega)]
    rw [e]
    exact ih (i + 1) (by omega)
set_option maxRecDepth 100000 in
theorem ct_fi54 {v : Int32} : am_M (d + 1) false nm_J7_fill_53178 [aR 54, aI v] M (am_q0 (mm_i M 54 (fun j => if j < 9 then v else M.1 54 j))) := by
  refine ⟨rfl, rfl, rfl, fun X hX => am_run hX 5 _ _ _ _ ?_⟩
  conv => whnf
  have key := fi_l54 (M := M) (v := v) hX ⟨rfl, rfl⟩ 9 0 (by omega)
  have e : (fun j => if j < 0 then v else M.1 54 j) = M.1 54 := by
    funext j
    rw [if_neg (by omega)]
  rw [e, mm_iz] at key
  exact key
set_option maxRecDepth 100000 in
theorem fi_l55 {v : Int32} {P : am_Q} {X : am_X} (hX : am_K d false nm_J7_fill_53178 P X) (hP : P (.inl none) (mm_i M 55 (fun j => if j < 9 then v else M.1 55 j))) : ∀ (m i : Nat), i + m = 9 → X 5 [some (aR 55), some (aI v), some (aI (nI i)), some (aI (nI 9))] [] (mm_i M 55 (fun j => if j < i then v else M.1 55 j)) := by
  intro m
  induction m with
  | zero =>
    intro i hi
    have hi : i = 9 := by omega
    subst hi
    refine am_run hX 4 _ _ _ _ ?_
    conv => whnf
    refine ⟨fun _ => ?_, fun c => absurd (by decide) c⟩
    conv => whnf
    exact ⟨trivial, hP⟩
  | succ m ih =>
    intro i hi
    refine am_run hX 3 _ _ _ _ ?_
    conv => whnf
    refine ⟨fun c => absurd c (nI_ge (by omega) (by decide)), fun _ => ?_⟩
    refine am_run hX 6 _ _ _ _ ?_
    conv => whnf
    refine ⟨vp_in_nI (by show _ < 9; omega) (by decide), ?_⟩
    conv => whnf
    rw [nI_clamp (n := i) (by omega), nI_1, mi_two, mm_i1]
    have e : upd (fun j => if j < i then v else M.1 55 j) i v = fun j => if j < i + 1 then v else M.1 55 j := by
      funext j
      unfold upd
      by_cases h : j = i
      · rw [if_pos h, if_pos (by omega)]
      · rw [if_neg h]
        dsimp only
        by_cases h2 : j < i
        · rw [if_pos h2, if_pos (by omega)]
        · rw [if_neg h2, if_neg (by omega)]
    rw [e]
    exact ih (i + 1) (by omega)
set_option maxRecDepth 100000 in
theorem ct_fi55 {v : Int32} : am_M (d + 1) false nm_J7_fill_53178 [aR 55, aI v] M (am_q0 (mm_i M 55 (fun j => if j < 9 then v else M.1 55 j))) := by
  refine ⟨rfl, rfl, rfl, fun X hX => am_run hX 5 _ _ _ _ ?_⟩
  conv => whnf
  have key := fi_l55 (M := M) (v := v) hX ⟨rfl, rfl⟩ 9 0 (by omega)
  have e : (fun j => if j < 0 then v else M.1 55 j) = M.1 55 := by
    funext j
    rw [if_neg (by omega)]
  rw [e, mm_iz] at key
  exact key
set_option maxRecDepth 100000 in
theorem fi_l56 {v : Int32} {P : am_Q} {X : am_X} (hX : am_K d false nm_J7_fill_53178 P X) (hP : P (.inl none) (mm_i M 56 (fun j => if j < 9 then v else M.1 56 j))) : ∀ (m i : Nat), i + m = 9 → X 5 [some (aR 56), some (aI v), some (aI (nI i)), some (aI (nI 9))] [] (mm_i M 56 (fun j => if j < i then v else M.1 56 j)) := by
  intro m
  induction m with
  | zero =>
    intro i hi
    have hi : i = 9 := by omega
    subst hi
    refine am_run hX 4 _ _ _ _ ?_
    conv => whnf
    refine ⟨fun _ => ?_, fun c => absurd (by decide) c⟩
    conv => whnf
    exact ⟨trivial, hP⟩
  | succ m ih =>
    intro i hi
    refine am_run hX 3 _ _ _ _ ?_
    conv => whnf
    refine ⟨fun c => absurd c (nI_ge (by omega) (by decide)), fun _ => ?_⟩
    refine am_run hX 6 _ _ _ _ ?_
    conv => whnf
    refine ⟨vp_in_nI (by show _ < 9; omega) (by decide), ?_⟩
    conv => whnf
    rw [nI_clamp (n := i) (by omega), nI_1, mi_two, mm_i1]
    have e : upd (fun j => if j < i then v else M.1 56 j) i v = fun j => if j < i + 1 then v else M.1 56 j := by
      funext j
      unfold upd
      by_cases h : j = i
      · rw [if_pos h, if_pos (by omega)]
      · rw [if_neg h]
        dsimp only
        by_cases h2 : j < i
        · rw [if_pos h2, if_pos (by omega)]
        · rw [if_neg h2, if_neg (by omega)]
    rw [e]
    exact ih (i + 1) (by omega)
set_option maxRecDepth 100000 in
theorem ct_fi56 {v : Int32} : am_M (d + 1) false nm_J7_fill_53178 [aR 56, aI v] M (am_q0 (mm_i M 56 (fun j => if j < 9 then v else M.1 56 j))) := by
  refine ⟨rfl, rfl, rfl, fun X hX => am_run hX 5 _ _ _ _ ?_⟩
  conv => whnf
  have key := fi_l56 (M := M) (v := v) hX ⟨rfl, rfl⟩ 9 0 (by omega)
  have e : (fun j => if j < 0 then v else M.1 56 j) = M.1 56 := by
    funext j
    rw [if_neg (by omega)]
  rw [e, mm_iz] at key
  exact key
end CDW
