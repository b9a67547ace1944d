/-! KIN: what can be reached; sets as bits of longs -/
def RC (n g0 x : Nat) : Prop := ∃ ps : List Nat, (∀ q, q ∈ ps → q < n) ∧ x = ps.foldl (fun g q => cp n q g) g0
theorem RC_0 (n g0 : Nat) : RC n g0 g0 := ⟨[], by simp, rfl⟩
theorem RC_s {n g0 x p : Nat} (h : RC n g0 x) (hp : p < n) : RC n g0 (cp n p x) := by
  obtain ⟨ps, h1, rfl⟩ := h
  refine ⟨ps ++ [p], fun q hq => ?_, by rw [List.foldl_append]; rfl⟩
  rcases List.mem_append.mp hq with h | h
  · exact h1 q h
  · rw [List.mem_singleton.mp h]; exact hp
theorem RC_c {n : Nat} {F : Nat → Prop} (hF : ∀ x, F x → ∀ p, p < n → F (cp n p x)) {g0 x : Nat} (h0 : F g0) (h : RC n g0 x) : F x := by
  obtain ⟨ps, h1, rfl⟩ := h
  induction ps generalizing g0 with
  | nil => exact h0
  | cons p ps ih => exact ih (hF g0 h0 p (h1 p List.mem_cons_self)) (fun q hq => h1 q (List.mem_cons_of_mem _ hq))
/-- how many there are below k -/
def cn (F : Nat → Bool) : Nat → Nat
  | 0 => 0
  | k + 1 => cn F k + (if F k = true then 1 else 0)
theorem cn_le (F : Nat → Bool) : ∀ k, cn F k ≤ k
  | 0 => Nat.le_refl _
  | k + 1 => by
    have := cn_le F k
    simp only [cn]
    split <;> omega
theorem cn_c {F F' : Nat → Bool} : ∀ k, (∀ x, x < k → F x = F' x) → cn F k = cn F' k
  | 0, _ => rfl
  | k + 1, h => by
    simp only [cn]
    rw [cn_c k (fun x hx => h x (by omega)), h k (by omega)]
theorem cn_s {F F' : Nat → Bool} {g : Nat} (h : ∀ x, F' x = (F x || x == g)) (hg : F g = false) : ∀ k, cn F' k = cn F k + (if g < k then 1 else 0)
  | 0 => by simp [cn]
  | k + 1 => by
    simp only [cn]
    rw [cn_s h hg k, h k]
    by_cases e : k = g
    · subst e
      simp [hg]
    · have e1 : (k == g) = false := by simp [e]
      rw [e1, Bool.or_false]
      by_cases e2 : g < k
      · rw [if_pos e2, show (if g < k + 1 then 1 else 0 : Nat) = 1 from if_pos (by omega)]; omega
      · rw [if_neg e2, show (if g < k + 1 then 1 else 0 : Nat) = 0 from if_neg (by omega)]; omega
def sb (f : Nat → Int64) (x : Nat) : Bool := (f (x / 64)).toBitVec.getLsbD (x % 64)
def bw (j : Nat) : Int64 := (1 : Int64) <<< ((nI j).toInt64 &&& 63)
theorem bw_t : ∀ j, j < 64 → (bw j).toBitVec = BitVec.twoPow 64 j := by decide +kernel
theorem lg_0 (a b : Int64) : lg_cmp a b = 0 ↔ a = b := by
  unfold lg_cmp
  by_cases h : a > b
  · rw [if_pos h]
    constructor
    · intro q; exact absurd q (by decide)
    · intro q; subst q; exact (Int64.lt_irrefl h).elim
  · rw [if_neg h]
    by_cases e : a = b
    · simp [e]
    · rw [if_neg e]
      constructor
      · intro q; exact absurd q (by decide)
      · intro q; exact absurd q e
theorem bw_and (x : Int64) (j : Nat) (hj : j < 64) : x &&& bw j = 0 ↔ x.toBitVec.getLsbD j = false := by
  rw [← Int64.toBitVec_inj, Int64.toBitVec_and, bw_t j hj, BitVec.and_twoPow]
  cases h : x.toBitVec.getLsbD j with
  | true =>
    simp only [if_true]
    constructor
    · intro q
      have := congrArg (fun v => BitVec.getLsbD v j) q
      simp [BitVec.getLsbD_twoPow, hj] at this
    · intro q; cases q
  | false => simp
theorem sb_up (f : Nat → Int64) (g : Nat) (x : Nat) : sb (vp_updL f (g / 64) (f (g / 64) ||| bw (g % 64))) x = (sb f x || x == g) := by
  unfold sb vp_updL
  by_cases h : x / 64 = g / 64
  · rw [if_pos h, h, Int64.toBitVec_or, bw_t _ (Nat.mod_lt _ (by decide)), BitVec.getLsbD_or, BitVec.getLsbD_twoPow]
    have hx : x % 64 < 64 := Nat.mod_lt _ (by decide)
    have e : (decide (x % 64 < 64) && decide (g % 64 = x % 64)) = (x == g) := by
      rw [Bool.eq_iff_iff]
      simp
      omega
    first
    | rw [e]
    | (congr 1
       rw [Bool.eq_iff_iff]
       simp
       omega)
  · rw [if_neg h]
    have : (x == g) = false := by
      simp
      intro q
      exact h (by rw [q])
    rw [this, Bool.or_false]
theorem sb_u0 (f : Nat → Int64) (w : Nat) (x : Nat) : sb (vp_updL f w (f w ||| 0)) x = sb f x := by
  unfold sb vp_updL
  by_cases h : x / 64 = w
  · rw [if_pos h, h, Int64.or_zero]
  · rw [if_neg h]
theorem nI_m63 (n : Nat) : nI n &&& 63 = nI (n % 64) := by
  rw [show (63 : Int32) = nI 63 from rfl, nI_and, show (63 : Nat) = 2 ^ 6 - 1 from rfl, Nat.and_two_pow_sub_one_eq_mod]
set_option maxRecDepth 100000 in
theorem ct_see {d : Nat} {M : mm_M} {g : Nat} (hg : g < 32768) : am_M (d + 1) false nm_X7_see [aR 70, aI (nI g)] M (fun r M' => ∃ f h, M' = mm_l (mm_l M 79 f) 80 h ∧ (∀ x, sb f x = (sb (M.2 79) x || x == g)) ∧ (∀ x, sb h x = (sb (M.2 80) x || (x == g && !sb (M.2 79) g))) ∧ r = .inl (some (aI (if sb (M.2 79) g = true then 0 else 1)))) := by
  have es : nI g >>> ((6 : Int32) &&& 31) = nI (g / 64) := nI_sh (by omega) 6 (by decide)
  have eb : (1 : Int64) <<< ((nI (g % 64)).toInt64 &&& 63) = bw (g % 64) := rfl
  have hj : g % 64 < 64 := Nat.mod_lt _ (by decide)
  refine ⟨rfl, rfl, rfl, fun X hX => am_run hX 70 _ _ _ _ ?_⟩
  conv => whnf
  rw [nI_m63, es, eb]
  refine ⟨vp_in_nI (by show _ < 512; omega) (by decide), ?_⟩
  conv => whnf
  rw [nI_clamp (n := g / 64) (by omega), lg_0, bw_and _ _ hj]
  refine ⟨fun hc => ?_, fun hc => ?_⟩
  · have hs : sb (M.2 79) g = true := by
      unfold sb
      cases h : (M.2 79 (g / 64)).toBitVec.getLsbD (g % 64) with
      | true => rfl
      | false => exact absurd h hc
    conv => whnf
    rw [es]
    refine ⟨vp_in_nI (by show _ < 512; omega) (by decide), ?_⟩
    conv => whnf
    refine ⟨vp_in_nI (by show _ < 512; omega) (by decide), ?_⟩
    conv => whnf
    rw [es, nI_clamp (n := g / 64) (by omega)]
    refine ⟨vp_in_nI (by show _ < 512; omega) (by decide), ?_⟩
    conv => whnf
    refine ⟨fun _ => ?_, fun c => absurd rfl c⟩
    conv => whnf
    refine ⟨vp_in_nI (by show _ < 512; omega) (by decide), ?_⟩
    conv => whnf
    rw [nI_clamp (n := g / 64) (by omega)]
    refine ⟨rfl, _, _, rfl, sb_up _ g, fun x => ?_, by rw [if_pos hs]⟩
    rw [show (mm_l M 79 (vp_updL (M.2 79) (g / 64) (M.2 79 (g / 64) ||| bw (g % 64)))).2 80 = M.2 80 from mm_lne _ _ _ _ (by decide), sb_u0, hs]
    simp
  · have hs : sb (M.2 79) g = false := Decidable.byContradiction hc
    conv => whnf
    rw [es]
    refine ⟨vp_in_nI (by show _ < 512; omega) (by decide), ?_⟩
    conv => whnf
    refine ⟨vp_in_nI (by show _ < 512; omega) (by decide), ?_⟩
    conv => whnf
    rw [es, nI_clamp (n := g / 64) (by omega)]
    refine ⟨vp_in_nI (by show _ < 512; omega) (by decide), ?_⟩
    conv => whnf
    refine ⟨fun c => absurd c (by decide), fun _ => ?_⟩
    conv => whnf
    refine ⟨vp_in_nI (by show _ < 512; omega) (by decide), ?_⟩
    conv => whnf
    rw [nI_clamp (n := g / 64) (by omega)]
    refine ⟨rfl, _, _, rfl, sb_up _ g, fun x => ?_, by rw [if_neg (by rw [hs]; decide)]⟩
    rw [show (mm_l M 79 (vp_updL (M.2 79) (g / 64) (M.2 79 (g / 64) ||| bw (g % 64)))).2 80 = M.2 80 from mm_lne _ _ _ _ (by decide), sb_up, hs]
    simp
set_option maxRecDepth 100000 in
theorem fl_l79 {d : Nat} {M : mm_M} {v : Int64} {P : am_Q} {X : am_X} (hX : am_K d false nm_J7_fill_d0a16 P X) (hP : P (.inl none) (mm_l M 79 (fun j => if j < 512 then v else M.2 79 j))) : ∀ (m i : Nat), i + m = 512 → X 6 [some (aR 79), some (aJ v), none, some (aI (nI i)), some (aI (nI 512))] [] (mm_l M 79 (fun j => if j < i then v else M.2 79 j)) := by
  intro m
  induction m with
  | zero =>
    intro i hi
    have hi : i = 512 := by omega
    subst hi
    refine am_run hX 4 _ _ _ _ ?_
    conv => whnf
    refine ⟨fun _ => ?_, fun c => absurd (by decide) c⟩
    conv => whnf
    exact ⟨trivial, hP⟩
  | succ m ih =>
    intro i hi
    refine am_run hX 3 _ _ _ _ ?_
    conv => whnf
    refine ⟨fun c => absurd c (nI_ge (by omega) (by decide)), fun _ => ?_⟩
    refine am_run hX 6 _ _ _ _ ?_
    conv => whnf
    refine ⟨vp_in_nI (by show _ < 512; omega) (by decide), ?_⟩
    conv => whnf
    rw [nI_clamp (n := i) (by omega), nI_1, mm_l2, mm_ll]
    have e : vp_updL (fun j => if j < i then v else M.2 79 j) i v = fun j => if j < i + 1 then v else M.2 79 j := by
      funext j
      unfold vp_updL
      by_cases h : j = i
      · rw [if_pos h, if_pos (by omega)]
      · rw [if_neg h]
        dsimp only
        by_cases h2 : j < i
        · rw [if_pos h2, if_pos (by omega)]
        · rw [if_neg h2, if_neg (by omega)]
    rw [e]
    exact ih (i + 1) (by omega)
set_option maxRecDepth 100000 in
theorem ct_fill79 {d : Nat} {M : mm_M} {v : Int64} : am_M (d + 1) false nm_J7_fill_d0a16 [aR 79, aJ v] M (am_q0 (mm_l M 79 (fun j => if j < 512 then v else M.2 79 j))) := by
  refine ⟨rfl, rfl, rfl, fun X hX => am_run hX 5 _ _ _ _ ?_⟩
  conv => whnf
  have key := fl_l79 (M := M) (v := v) hX ⟨rfl, rfl⟩ 512 0 (by omega)
  have e : (fun j => if j < 0 then v else M.2 79 j) = M.2 79 := by
    funext j
    rw [if_neg (by omega)]
  rw [e, mm_lz] at key
  exact key
set_option maxRecDepth 100000 in
theorem fl_l80 {d : Nat} {M : mm_M} {v : Int64} {P : am_Q} {X : am_X} (hX : am_K d false nm_J7_fill_d0a16 P X) (hP : P (.inl none) (mm_l M 80 (fun j => if j < 512 then v else M.2 80 j))) : ∀ (m i : Nat), i + m = 512 → X 6 [some (aR 80), some (aJ v), none, some (aI (nI i)), some (aI (nI 512))] [] (mm_l M 80 (fun j => if j < i then v else M.2 80 j)) := by
  intro m
  induction m with
  | zero =>
    intro i hi
    have hi : i = 512 := by omega
    subst hi
    refine am_run hX 4 _ _ _ _ ?_
    conv => whnf
    refine ⟨fun _ => ?_, fun c => absurd (by decide) c⟩
    conv => whnf
    exact ⟨trivial, hP⟩
  | succ m ih =>
    intro i hi
    refine am_run hX 3 _ _ _ _ ?_
    conv => whnf
    refine ⟨fun c => absurd c (nI_ge (by omega) (by decide)), fun _ => ?_⟩
    refine am_run hX 6 _ _ _ _ ?_
    conv => whnf
    refine ⟨vp_in_nI (by show _ < 512; omega) (by decide), ?_⟩
    conv => whnf
    rw [nI_clamp (n := i) (by omega), nI_1, mm_l2, mm_ll]
    have e : vp_updL (fun j => if j < i then v else M.2 80 j) i v = fun j => if j < i + 1 then v else M.2 80 j := by
      funext j
      unfold vp_updL
      by_cases h : j = i
      · rw [if_pos h, if_pos (by omega)]
      · rw [if_neg h]
        dsimp only
        by_cases h2 : j < i
        · rw [if_pos h2, if_pos (by omega)]
        · rw [if_neg h2, if_neg (by omega)]
    rw [e]
    exact ih (i + 1) (by omega)
set_option maxRecDepth 100000 in
theorem ct_fill80 {d : Nat} {M : mm_M} {v : Int64} : am_M (d + 1) false nm_J7_fill_d0a16 [aR 80, aJ v] M (am_q0 (mm_l M 80 (fun j => if j < 512 then v else M.2 80 j))) := by
  refine ⟨rfl, rfl, rfl, fun X hX => am_run hX 5 _ _ _ _ ?_⟩
  conv => whnf
  have key := fl_l80 (M := M) (v := v) hX ⟨rfl, rfl⟩ 512 0 (by omega)
  have e : (fun j => if j < 0 then v else M.2 80 j) = M.2 80 := by
    funext j
    rw [if_neg (by omega)]
  rw [e, mm_lz] at key
  exact key
