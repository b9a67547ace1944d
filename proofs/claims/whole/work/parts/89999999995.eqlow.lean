/-! THE TWO ROWS OF equal: how they begin; the least common power -/
def bas (a : Nat) (j : Nat) : R4 := if j = a then (1, 0, 0, 0) else (0, 0, 0, 0)
def allN (p : Nat → Bool) : Nat → Bool
  | 0 => true
  | n + 1 => allN p n && p n
theorem all_iff {p : Nat → Bool} : ∀ n, allN p n = true ↔ ∀ i, i < n → p i = true
  | 0 => ⟨fun _ i hi => by omega, fun _ => rfl⟩
  | n + 1 => by
    simp only [allN, Bool.and_eq_true]
    rw [all_iff n]
    constructor
    · rintro ⟨h1, h2⟩ i hi
      by_cases e : i = n
      · rw [e]
        exact h2
      · exact h1 i (by omega)
    · intro h
      exact ⟨fun i hi => h i (by omega), h n (by omega)⟩
def lowA (N : Nat) : Nat → (Nat → R4) → Nat × (Nat → R4)
  | 0, xs => (0, xs)
  | k + 1, xs => if allN (fun j => dvB (xs j)) N = true then lowA N k (fun j => hv (xs j)) else (k + 1, xs)
theorem lo2_par (a b c e : Int) : ((lI a ^^^ lI c) ||| (lI b ^^^ lI e)) &&& 1 = 0 ↔ ((a - c) % 2 = 0 ∧ (b - e) % 2 = 0) := by
  have p := lI_par a
  have q := lI_par b
  have r := lI_par c
  have s := lI_par e
  rw [l_1] at p q r s
  rw [l_1, Int64.toBitVec_or, BitVec.getLsbD_or, Int64.toBitVec_xor, Int64.toBitVec_xor, BitVec.getLsbD_xor, BitVec.getLsbD_xor]
  cases h1 : (lI a).toBitVec.getLsbD 0 <;> cases h2 : (lI b).toBitVec.getLsbD 0 <;> cases h3 : (lI c).toBitVec.getLsbD 0 <;> cases h4 : (lI e).toBitVec.getLsbD 0 <;> simp only [h1, h2, h3, h4] at p q r s <;> simp <;> simp at p q r s <;> omega
theorem rot_T {F : R4 → R4} {xs : Nat → R4} {N j : Nat} (hj : j < N) : rotm (fun _ => True) F xs N j = F (xs j) := by
  unfold rotm
  rw [if_pos ⟨trivial, hj⟩]
/-- halved as far as a place -/
def hf (xs : Nat → R4) (p : Nat) : Nat → R4 := fun j => (if 4 * j < p then (xs j).1 / 2 else (xs j).1, if 4 * j + 1 < p then (xs j).2.1 / 2 else (xs j).2.1, if 4 * j + 2 < p then (xs j).2.2.1 / 2 else (xs j).2.2.1, if 4 * j + 3 < p then (xs j).2.2.2 / 2 else (xs j).2.2.2)
theorem pp_hf (xs : Nat → R4) (p j : Nat) {q : Nat} (hq : q < 4) : pp (hf xs p j) q = if 4 * j + q < p then pp (xs j) q / 2 else pp (xs j) q := by
  rcases (by omega : q = 0 ∨ q = 1 ∨ q = 2 ∨ q = 3) with rfl | rfl | rfl | rfl <;> rfl
theorem hf_u {g : Nat → Int64} {N i q : Nat} {xs : Nat → R4} (hi : i < N) (hq : q < 4) : vp_updL (cq g N (hf xs (4 * i + q))) (4 * i + q) (lI (pp (xs i) q / 2)) = cq g N (hf xs (4 * i + q + 1)) := by
  funext r
  unfold vp_updL
  by_cases h : r = 4 * i + q
  · subst h
    rw [if_pos rfl, cq_at hi hq, pp_hf _ _ _ hq, if_pos (by omega)]
  · rw [if_neg h]
    unfold cq
    by_cases h2 : r < 4 * N
    · rw [if_pos h2, if_pos h2, pp_hf _ _ _ (Nat.mod_lt _ (by decide)), pp_hf _ _ _ (Nat.mod_lt _ (by decide))]
      by_cases h3 : 4 * (r / 4) + r % 4 < 4 * i + q
      · rw [if_pos h3, if_pos (by omega)]
      · rw [if_neg h3, if_neg (by omega)]
    · rw [if_neg h2, if_neg h2]
theorem hf_0 (xs : Nat → R4) : hf xs 0 = xs := by
  funext j
  unfold hf
  rw [if_neg (by omega), if_neg (by omega), if_neg (by omega), if_neg (by omega)]
theorem hf_N {xs : Nat → R4} {N j : Nat} (hj : j < N) : hf (rotm (fun _ => True) rr xs N) (4 * N) j = hv (xs j) := by
  unfold hf
  rw [if_pos (by omega), if_pos (by omega), if_pos (by omega), if_pos (by omega), rot_T hj]
  rfl
theorem bas_cq {g : Nat → Int64} {N a : Nat} (ha : a < N) (hN : 4 * N ≤ 128) : vp_updL (fun j => if j < 128 then 0 else g j) (4 * a) 1 = cq (fun j => if j < 128 then 0 else g j) N (bas a) := by
  funext p
  unfold vp_updL cq
  by_cases h : p = 4 * a
  · rw [if_pos h, if_pos (by omega)]
    unfold bas
    rw [if_pos (by omega), show p % 4 = 0 by omega]
    decide
  · rw [if_neg h]
    by_cases h2 : p < 4 * N
    · dsimp only
      rw [if_pos h2, if_pos (by omega)]
      unfold bas
      by_cases h3 : p / 4 = a
      · rw [if_pos h3]
        rcases (by omega : p % 4 = 1 ∨ p % 4 = 2 ∨ p % 4 = 3) with e | e | e <;> rw [e] <;> decide
      · rw [if_neg h3]
        rcases (by omega : p % 4 = 0 ∨ p % 4 = 1 ∨ p % 4 = 2 ∨ p % 4 = 3) with e | e | e | e <;> rw [e] <;> decide
    · rw [if_neg h2]
section EQL
variable {d : Nat} {M : mm_M} {g : Nat → Int64}
set_option maxRecDepth 100000 in
theorem fl_l35 {v : Int64} {P : am_Q} {X : am_X} (hX : am_K d false nm_J7_fill_d0a16 P X) (hP : P (.inl none) (mm_l M 35 (fun j => if j < 128 then v else M.2 35 j))) : ∀ (m i : Nat), i + m = 128 → X 6 [some (aR 35), some (aJ v), none, some (aI (nI i)), some (aI (nI 128))] [] (mm_l M 35 (fun j => if j < i then v else M.2 35 j)) := by
  intro m
  induction m with
  | zero =>
    intro i hi
    have hi : i = 128 := by omega
    subst hi
    refine am_run hX 4 _ _ _ _ ?_
    conv => whnf
    refine ⟨fun _ => ?_, fun c => absurd (by decide) c⟩
    conv => whnf
    exact ⟨trivial, hP⟩
  | succ m ih =>
    intro i hi
    refine am_run hX 3 _ _ _ _ ?_
    conv => whnf
    refine ⟨fun c => absurd c (nI_ge (by omega) (by decide)), fun _ => ?_⟩
    refine am_run hX 6 _ _ _ _ ?_
    conv => whnf
    refine ⟨vp_in_nI (by show _ < 128; omega) (by decide), ?_⟩
    conv => whnf
    rw [nI_clamp (n := i) (by omega), nI_1, mm_l2, mm_ll]
    have e : vp_updL (fun j => if j < i then v else M.2 35 j) i v = fun j => if j < i + 1 then v else M.2 35 j := by
      funext j
      unfold vp_updL
      by_cases h : j = i
      · rw [if_pos h, if_pos (by omega)]
      · rw [if_neg h]
        dsimp only
        by_cases h2 : j < i
        · rw [if_pos h2, if_pos (by omega)]
        · rw [if_neg h2, if_neg (by omega)]
    rw [e]
    exact ih (i + 1) (by omega)
set_option maxRecDepth 100000 in
theorem ct_fill35 {v : Int64} : am_M (d + 1) false nm_J7_fill_d0a16 [aR 35, aJ v] M (am_q0 (mm_l M 35 (fun j => if j < 128 then v else M.2 35 j))) := by
  refine ⟨rfl, rfl, rfl, fun X hX => am_run hX 5 _ _ _ _ ?_⟩
  conv => whnf
  have key := fl_l35 (M := M) (v := v) hX ⟨rfl, rfl⟩ 128 0 (by omega)
  have e : (fun j => if j < 0 then v else M.2 35 j) = M.2 35 := by
    funext j
    rw [if_neg (by omega)]
  rw [e, mm_lz] at key
  exact key
set_option maxRecDepth 100000 in
theorem ct_set35 {N a : Nat} (ha : a < N) (hN : 4 * N ≤ 128) : am_M (d + 2) false nm_X6_setOne [aR 33, aI (nI N), aI (nI a)] M (am_q0 (mm_l (mm_i M 33 (upd (upd (M.1 33) 2 (nI N)) 3 0)) 35 (cq (fun j => if j < 128 then 0 else M.2 35 j) N (bas a)))) := by
  refine ⟨rfl, rfl, rfl, fun X hX => am_run hX 30 _ _ _ _ ?_⟩
  conv => whnf
  refine am_c0 (ct_fill35 (d := d)) ?_
  skip
  conv => whnf
  rw [show (4 : Int32) * nI a = nI (4 * a) from by rw [show (4 : Int32) = nI 4 from rfl, nI_mul]]
  refine ⟨vp_in_nI (by show _ < 128; omega) (by decide), ?_⟩
  conv => whnf
  refine ⟨trivial, rfl, ?_⟩
  rw [nI_clamp (n := 4 * a) (by omega), mm_l2, mm_ll, mm_i1, mm_ii]
  exact congrArg (mm_l _ 35) (bas_cq ha hN)
set_option maxRecDepth 100000 in
theorem cl_l35 {P : am_Q} {X : am_X} {N : Nat} {xs : Nat → R4} (hX : am_K d false nm_X6_canLower P X) (hN : N ≤ 32) (hs : M.1 33 2 = nI N) (hP : P (.inl (some (aI (if allN (fun j => dvB (xs j)) N = true then 1 else 0)))) (mm_l M 35 (cq g N xs))) : ∀ (m i : Nat), i + m = N → allN (fun j => dvB (xs j)) i = true → X 2 [some (aR 33), some (aI (nI (4 * i)))] [] (mm_l M 35 (cq g N xs)) := by
  intro m
  induction m with
  | zero =>
    intro i hi ha
    have hi : i = N := by omega
    subst hi
    refine am_run hX 12 _ _ _ _ ?_
    conv => whnf
    rw [show (mm_l M 35 (cq g i xs)).1 33 2 = nI i from hs, show (4 : Int32) = nI 4 from rfl, nI_mul]
    refine ⟨fun _ => ?_, fun c => absurd (nI_le (by omega) (by omega)) c⟩
    conv => whnf
    rw [if_pos ha] at hP
    exact ⟨rfl, hP⟩
  | succ m ih =>
    intro i hi ha
    have ih := ih (i + 1) (by omega)
    have hi2 : i < N := by omega
    refine am_run hX 6 _ _ _ _ ?_
    conv => whnf
    rw [show (mm_l M 35 (cq g N xs)).1 33 2 = nI N from hs, show (4 : Int32) = nI 4 from rfl, nI_mul]
    refine ⟨fun c => absurd c (nI_ge (by omega) (by omega)), fun _ => ?_⟩
    have e1 : nI (4 * i) + 1 = nI (4 * i + 1) := nI_1 _
    have e2 : nI (4 * i) + 2 = nI (4 * i + 2) := by rw [show (2 : Int32) = nI 2 from rfl, nI_add]
    have e3 : nI (4 * i) + 3 = nI (4 * i + 3) := by rw [show (3 : Int32) = nI 3 from rfl, nI_add]
    refine am_run hX 30 _ _ _ _ ?_
    conv => whnf
    refine ⟨vp_in_nI (by show _ < 128; omega) (by decide), ?_⟩
    conv => whnf
    rw [e2]
    refine ⟨vp_in_nI (by show _ < 128; omega) (by decide), ?_⟩
    conv => whnf
    rw [e1]
    refine ⟨vp_in_nI (by show _ < 128; omega) (by decide), ?_⟩
    conv => whnf
    rw [e3]
    refine ⟨vp_in_nI (by show _ < 128; omega) (by decide), ?_⟩
    conv => whnf
    rw [nI_clamp (n := 4 * i) (by omega), nI_clamp (n := 4 * i + 1) (by omega), nI_clamp (n := 4 * i + 2) (by omega), nI_clamp (n := 4 * i + 3) (by omega), mm_l2, cq_at0 hi2, cq_at hi2 (show 1 < 4 by decide), cq_at hi2 (show 2 < 4 by decide), cq_at hi2 (show 3 < 4 by decide), lg_0, lo2_par]
    refine ⟨fun c => ?_, fun c => ?_⟩
    · refine am_run hX 2 _ _ _ _ ?_
      conv => whnf
      rw [show nI (4 * i) + 4 = nI (4 * (i + 1)) from by rw [show (4 : Int32) = nI 4 from rfl, nI_add]; rfl]
      exact ih (by simp only [allN]; rw [ha, (dvB_iff (xs i)).mpr c]; rfl)
    · refine am_run hX 3 _ _ _ _ ?_
      conv => whnf
      rw [if_neg (fun q => c ((dvB_iff (xs i)).mp ((all_iff N).mp q i hi2)))] at hP
      exact ⟨rfl, hP⟩
set_option maxRecDepth 100000 in
theorem ct_canLow35 {N : Nat} {xs : Nat → R4} (hN : N ≤ 32) (hs : M.1 33 2 = nI N) : am_M (d + 1) false nm_X6_canLower [aR 33] (mm_l M 35 (cq g N xs)) (am_q1 (aI (if allN (fun j => dvB (xs j)) N = true then 1 else 0)) (mm_l M 35 (cq g N xs))) := by
  refine ⟨rfl, rfl, rfl, fun X hX => am_run hX 2 _ _ _ _ ?_⟩
  conv => whnf
  exact cl_l35 hX hN hs ⟨rfl, rfl⟩ N 0 (by omega) rfl
set_option maxRecDepth 100000 in
theorem lw_135 {P : am_Q} {X : am_X} {N : Nat} {xs : Nat → R4} (hX : am_K (d + 1) false nm_X6_lower P X) (hN : N ≤ 32) (hs : M.1 33 2 = nI N) (hK : X 47 [some (aR 33), some (aI (nI (4 * N)))] [] (mm_l M 35 (cq g N (rotm (fun _ => True) rr xs N)))) : ∀ (m i : Nat), i + m = N → X 26 [some (aR 33), some (aI (nI (4 * i)))] [] (mm_l M 35 (cq g N (rotm (fun _ => True) rr xs i))) := by
  intro m
  induction m with
  | zero =>
    intro i hi
    have hi : i = N := by omega
    subst hi
    refine am_run hX 6 _ _ _ _ ?_
    conv => whnf
    rw [show (mm_l M 35 (cq g i (rotm (fun _ => True) rr xs i))).1 33 2 = nI i from hs, show (4 : Int32) = nI 4 from rfl, nI_mul]
    exact ⟨fun _ => hK, fun c => absurd (nI_le (by omega) (by omega)) c⟩
  | succ m ih =>
    intro i hi
    have ih := ih (i + 1) (by omega)
    refine am_run hX 6 _ _ _ _ ?_
    conv => whnf
    rw [show (mm_l M 35 (cq g N (rotm (fun _ => True) rr xs i))).1 33 2 = nI N from hs, show (4 : Int32) = nI 4 from rfl, nI_mul]
    refine ⟨fun c => absurd c (nI_ge (by omega) (by omega)), fun _ => ?_⟩
    refine am_run hX 5 _ _ _ _ ?_
    conv => whnf
    refine am_c0 (ct_times35 (d := d) hN (by omega)) ?_
    rw [rot_at, rot_s (S := fun _ => True) trivial]
    conv => whnf
    rw [show nI (4 * i) + 4 = nI (4 * (i + 1)) from by rw [show (4 : Int32) = nI 4 from rfl, nI_add]; rfl]
    exact ih
set_option maxRecDepth 100000 in
theorem lw_235 {P : am_Q} {X : am_X} {N : Nat} {xs : Nat → R4} (hX : am_K (d + 1) false nm_X6_lower P X) (hN : N ≤ 32) (hs : M.1 33 2 = nI N) (hb : ∀ j, j < N → ∀ q, q < 4 → -2 ^ 63 ≤ pp (xs j) q ∧ pp (xs j) q < 2 ^ 63) (hK : ∀ l, X 75 [some (aR 33), some (aI l)] [] (mm_l M 35 (cq g N (hf xs (4 * N))))) : ∀ (m p : Nat), p + m = 4 * N → X 49 [some (aR 33), some (aI (nI p))] [] (mm_l M 35 (cq g N (hf xs p))) := by
  intro m
  induction m with
  | zero =>
    intro p hp
    have hp : p = 4 * N := by omega
    subst hp
    refine am_run hX 6 _ _ _ _ ?_
    conv => whnf
    rw [show (mm_l M 35 (cq g N (hf xs (4 * N)))).1 33 2 = nI N from hs, show (4 : Int32) = nI 4 from rfl, nI_mul]
    exact ⟨fun _ => hK _, fun c => absurd (nI_le (by omega) (by omega)) c⟩
  | succ m ih =>
    intro p hp
    have ih := ih (p + 1) (by omega)
    obtain ⟨i, q, hq, rfl⟩ : ∃ i q, q < 4 ∧ p = 4 * i + q := ⟨p / 4, p % 4, Nat.mod_lt _ (by decide), by omega⟩
    have hi : i < N := by omega
    obtain ⟨b1, b2⟩ := hb i hi q hq
    refine am_run hX 6 _ _ _ _ ?_
    conv => whnf
    rw [show (mm_l M 35 (cq g N (hf xs (4 * i + q)))).1 33 2 = nI N from hs, show (4 : Int32) = nI 4 from rfl, nI_mul]
    refine ⟨fun c => absurd c (nI_ge (by omega) (by omega)), fun _ => ?_⟩
    refine am_run hX 10 _ _ _ _ ?_
    conv => whnf
    refine ⟨vp_in_nI (by show _ < 128; omega) (by decide), ?_⟩
    conv => whnf
    refine ⟨vp_in_nI (by show _ < 128; omega) (by decide), ?_⟩
    conv => whnf
    rw [nI_clamp (n := 4 * i + q) (by omega), nI_1, mm_l2, mm_ll, cq_at hi hq, pp_hf _ _ _ hq, if_neg (by omega), lI_sh b1 b2, hf_u hi hq]
    exact ih
theorem bd_rr {x : R4} (h : bd x) : ∀ q, q < 4 → -2 ^ 63 ≤ pp (rr x) q ∧ pp (rr x) q < 2 ^ 63 := by
  obtain ⟨a, b, c, e⟩ := x
  simp only [bd] at h
  intro q hq
  rcases (by omega : q = 0 ∨ q = 1 ∨ q = 2 ∨ q = 3) with rfl | rfl | rfl | rfl
  · show -2 ^ 63 ≤ b - e ∧ b - e < 2 ^ 63
    omega
  · show -2 ^ 63 ≤ a + c ∧ a + c < 2 ^ 63
    omega
  · show -2 ^ 63 ≤ b + e ∧ b + e < 2 ^ 63
    omega
  · show -2 ^ 63 ≤ c - a ∧ c - a < 2 ^ 63
    omega
set_option maxRecDepth 100000 in
theorem lw_l35 {P : am_Q} {X : am_X} {N : Nat} {F : Nat × (Nat → R4)} (hX : am_K (d + 1) false nm_X6_lower P X) (hN : N ≤ 32) (hP : P (.inl none) (mm_l (mm_i M 33 (upd (upd (M.1 33) 2 (nI N)) 3 (nI F.1))) 35 (cq g N F.2))) : ∀ (k : Nat) (xs : Nat → R4), k < 2 ^ 30 → (∀ j, j < N → bd (xs j)) → lowA N k xs = F → ∀ l, X 0 [some (aR 33), l] [] (mm_l (mm_i M 33 (upd (upd (M.1 33) 2 (nI N)) 3 (nI k))) 35 (cq g N xs)) := by
  intro k
  induction k with
  | zero =>
    intro xs hk hb hF l
    refine am_run hX 5 _ _ _ _ ?_
    conv => whnf
    refine ⟨fun _ => ?_, fun c => absurd (by show (mm_l (mm_i M 33 (upd (upd (M.1 33) 2 (nI N)) 3 (nI 0))) 35 (cq g N xs)).1 33 3 ≤ 0; rw [show (mm_l (mm_i M 33 (upd (upd (M.1 33) 2 (nI N)) 3 (nI 0))) 35 (cq g N xs)).1 33 3 = nI 0 from rfl]; decide) c⟩
    conv => whnf
    subst hF
    exact ⟨trivial, hP⟩
  | succ k ih =>
    intro xs hk hb hF l
    simp only [lowA] at hF
    refine am_run hX 3 _ _ _ _ ?_
    conv => whnf
    rw [show (mm_l (mm_i M 33 (upd (upd (M.1 33) 2 (nI N)) 3 (nI (k + 1)))) 35 (cq g N xs)).1 33 3 = nI (k + 1) from rfl]
    refine ⟨fun c => absurd c (nI_nle (by omega) (by omega)), fun _ => ?_⟩
    refine am_run hX 3 _ _ _ _ ?_
    conv => whnf
    refine am_c1 (ct_canLow35 (d := d) (M := mm_i M 33 (upd (upd (M.1 33) 2 (nI N)) 3 (nI (k + 1)))) hN (by rw [mm_i1]; rfl)) ?_
    by_cases ha : allN (fun j => dvB (xs j)) N = true
    · rw [if_pos ha] at hF ⊢
      conv => whnf
      refine ⟨fun c => absurd c (by decide), fun _ => ?_⟩
      refine am_run hX 8 _ _ _ _ ?_
      conv => whnf
      rw [show (mm_l (mm_i M 33 (upd (upd (M.1 33) 2 (nI N)) 3 (nI (k + 1)))) 35 (cq g N xs)).1 33 3 = nI (k + 1) from rfl, show nI (k + 1) - 1 = nI k from by rw [show (1 : Int32) = nI 1 from rfl, nI_sub (by omega)]; rfl, show (mm_l (mm_i M 33 (upd (upd (M.1 33) 2 (nI N)) 3 (nI (k + 1)))) 35 (cq g N xs)).1 33 = upd (upd (M.1 33) 2 (nI N)) 3 (nI (k + 1)) from rfl, upd_two]
      have em : mm_i (mm_l (mm_i M 33 (upd (upd (M.1 33) 2 (nI N)) 3 (nI (k + 1)))) 35 (cq g N xs)) 33 (upd (upd (M.1 33) 2 (nI N)) 3 (nI k)) = mm_l (mm_i M 33 (upd (upd (M.1 33) 2 (nI N)) 3 (nI k))) 35 (cq g N xs) := by
        show mm_l (mm_i (mm_i M 33 (upd (upd (M.1 33) 2 (nI N)) 3 (nI (k + 1)))) 33 (upd (upd (M.1 33) 2 (nI N)) 3 (nI k))) 35 (cq g N xs) = _
        rw [mm_ii]
      rw [em]
      have key := lw_135 (d := d) (M := mm_i M 33 (upd (upd (M.1 33) 2 (nI N)) 3 (nI k))) (g := g) (xs := xs) hX hN (by rw [mm_i1]; rfl) ?_ N 0 (by omega)
      · rw [rot_0] at key
        exact key
      · refine am_run hX 2 _ _ _ _ ?_
        conv => whnf
        have key2 := lw_235 (d := d) (M := mm_i M 33 (upd (upd (M.1 33) 2 (nI N)) 3 (nI k))) (g := g) (xs := rotm (fun _ => True) rr xs N) hX hN (by rw [mm_i1]; rfl) (fun j hj => by rw [rot_T hj]; exact bd_rr (hb j hj)) ?_ (4 * N) 0 (by omega)
        · rw [hf_0] at key2
          exact key2
        · intro l2
          rw [cq_e (ys := fun j => hv (xs j)) fun j hj => hf_N hj]
          refine am_run hX 1 _ _ _ _ ?_
          conv => whnf
          exact ih (fun j => hv (xs j)) (by omega) (fun j hj => bd_hv (hb j hj)) hF _
    · rw [if_neg ha] at hF ⊢
      conv => whnf
      refine ⟨fun _ => ?_, fun c => absurd rfl c⟩
      refine am_run hX 2 _ _ _ _ ?_
      conv => whnf
      subst hF
      exact ⟨trivial, hP⟩
theorem ct_lower35 {N k : Nat} {xs : Nat → R4} (hN : N ≤ 32) (hk : k < 2 ^ 30) (hb : ∀ j, j < N → bd (xs j)) : am_M (d + 2) false nm_X6_lower [aR 33] (mm_l (mm_i M 33 (upd (upd (M.1 33) 2 (nI N)) 3 (nI k))) 35 (cq g N xs)) (am_q0 (mm_l (mm_i M 33 (upd (upd (M.1 33) 2 (nI N)) 3 (nI (lowA N k xs).1))) 35 (cq g N (lowA N k xs).2))) := by
  refine ⟨rfl, rfl, rfl, fun X hX => ?_⟩
  exact lw_l35 hX hN ⟨rfl, rfl⟩ k xs hk hb rfl _
set_option maxRecDepth 100000 in
theorem fl_l38 {v : Int64} {P : am_Q} {X : am_X} (hX : am_K d false nm_J7_fill_d0a16 P X) (hP : P (.inl none) (mm_l M 38 (fun j => if j < 128 then v else M.2 38 j))) : ∀ (m i : Nat), i + m = 128 → X 6 [some (aR 38), some (aJ v), none, some (aI (nI i)), some (aI (nI 128))] [] (mm_l M 38 (fun j => if j < i then v else M.2 38 j)) := by
  intro m
  induction m with
  | zero =>
    intro i hi
    have hi : i = 128 := by omega
    subst hi
    refine am_run hX 4 _ _ _ _ ?_
    conv => whnf
    refine ⟨fun _ => ?_, fun c => absurd (by decide) c⟩
    conv => whnf
    exact ⟨trivial, hP⟩
  | succ m ih =>
    intro i hi
    refine am_run hX 3 _ _ _ _ ?_
    conv => whnf
    refine ⟨fun c => absurd c (nI_ge (by omega) (by decide)), fun _ => ?_⟩
    refine am_run hX 6 _ _ _ _ ?_
    conv => whnf
    refine ⟨vp_in_nI (by show _ < 128; omega) (by decide), ?_⟩
    conv => whnf
    rw [nI_clamp (n := i) (by omega), nI_1, mm_l2, mm_ll]
    have e : vp_updL (fun j => if j < i then v else M.2 38 j) i v = fun j => if j < i + 1 then v else M.2 38 j := by
      funext j
      unfold vp_updL
      by_cases h : j = i
      · rw [if_pos h, if_pos (by omega)]
      · rw [if_neg h]
        dsimp only
        by_cases h2 : j < i
        · rw [if_pos h2, if_pos (by omega)]
        · rw [if_neg h2, if_neg (by omega)]
    rw [e]
    exact ih (i + 1) (by omega)
set_option maxRecDepth 100000 in
theorem ct_fill38 {v : Int64} : am_M (d + 1) false nm_J7_fill_d0a16 [aR 38, aJ v] M (am_q0 (mm_l M 38 (fun j => if j < 128 then v else M.2 38 j))) := by
  refine ⟨rfl, rfl, rfl, fun X hX => am_run hX 5 _ _ _ _ ?_⟩
  conv => whnf
  have key := fl_l38 (M := M) (v := v) hX ⟨rfl, rfl⟩ 128 0 (by omega)
  have e : (fun j => if j < 0 then v else M.2 38 j) = M.2 38 := by
    funext j
    rw [if_neg (by omega)]
  rw [e, mm_lz] at key
  exact key
set_option maxRecDepth 100000 in
theorem ct_set38 {N a : Nat} (ha : a < N) (hN : 4 * N ≤ 128) : am_M (d + 2) false nm_X6_setOne [aR 36, aI (nI N), aI (nI a)] M (am_q0 (mm_l (mm_i M 36 (upd (upd (M.1 36) 2 (nI N)) 3 0)) 38 (cq (fun j => if j < 128 then 0 else M.2 38 j) N (bas a)))) := by
  refine ⟨rfl, rfl, rfl, fun X hX => am_run hX 30 _ _ _ _ ?_⟩
  conv => whnf
  refine am_c0 (ct_fill38 (d := d)) ?_
  skip
  conv => whnf
  rw [show (4 : Int32) * nI a = nI (4 * a) from by rw [show (4 : Int32) = nI 4 from rfl, nI_mul]]
  refine ⟨vp_in_nI (by show _ < 128; omega) (by decide), ?_⟩
  conv => whnf
  refine ⟨trivial, rfl, ?_⟩
  rw [nI_clamp (n := 4 * a) (by omega), mm_l2, mm_ll, mm_i1, mm_ii]
  exact congrArg (mm_l _ 38) (bas_cq ha hN)
set_option maxRecDepth 100000 in
theorem cl_l38 {P : am_Q} {X : am_X} {N : Nat} {xs : Nat → R4} (hX : am_K d false nm_X6_canLower P X) (hN : N ≤ 32) (hs : M.1 36 2 = nI N) (hP : P (.inl (some (aI (if allN (fun j => dvB (xs j)) N = true then 1 else 0)))) (mm_l M 38 (cq g N xs))) : ∀ (m i : Nat), i + m = N → allN (fun j => dvB (xs j)) i = true → X 2 [some (aR 36), some (aI (nI (4 * i)))] [] (mm_l M 38 (cq g N xs)) := by
  intro m
  induction m with
  | zero =>
    intro i hi ha
    have hi : i = N := by omega
    subst hi
    refine am_run hX 12 _ _ _ _ ?_
    conv => whnf
    rw [show (mm_l M 38 (cq g i xs)).1 36 2 = nI i from hs, show (4 : Int32) = nI 4 from rfl, nI_mul]
    refine ⟨fun _ => ?_, fun c => absurd (nI_le (by omega) (by omega)) c⟩
    conv => whnf
    rw [if_pos ha] at hP
    exact ⟨rfl, hP⟩
  | succ m ih =>
    intro i hi ha
    have ih := ih (i + 1) (by omega)
    have hi2 : i < N := by omega
    refine am_run hX 6 _ _ _ _ ?_
    conv => whnf
    rw [show (mm_l M 38 (cq g N xs)).1 36 2 = nI N from hs, show (4 : Int32) = nI 4 from rfl, nI_mul]
    refine ⟨fun c => absurd c (nI_ge (by omega) (by omega)), fun _ => ?_⟩
    have e1 : nI (4 * i) + 1 = nI (4 * i + 1) := nI_1 _
    have e2 : nI (4 * i) + 2 = nI (4 * i + 2) := by rw [show (2 : Int32) = nI 2 from rfl, nI_add]
    have e3 : nI (4 * i) + 3 = nI (4 * i + 3) := by rw [show (3 : Int32) = nI 3 from rfl, nI_add]
    refine am_run hX 30 _ _ _ _ ?_
    conv => whnf
    refine ⟨vp_in_nI (by show _ < 128; omega) (by decide), ?_⟩
    conv => whnf
    rw [e2]
    refine ⟨vp_in_nI (by show _ < 128; omega) (by decide), ?_⟩
    conv => whnf
    rw [e1]
    refine ⟨vp_in_nI (by show _ < 128; omega) (by decide), ?_⟩
    conv => whnf
    rw [e3]
    refine ⟨vp_in_nI (by show _ < 128; omega) (by decide), ?_⟩
    conv => whnf
    rw [nI_clamp (n := 4 * i) (by omega), nI_clamp (n := 4 * i + 1) (by omega), nI_clamp (n := 4 * i + 2) (by omega), nI_clamp (n := 4 * i + 3) (by omega), mm_l2, cq_at0 hi2, cq_at hi2 (show 1 < 4 by decide), cq_at hi2 (show 2 < 4 by decide), cq_at hi2 (show 3 < 4 by decide), lg_0, lo2_par]
    refine ⟨fun c => ?_, fun c => ?_⟩
    · refine am_run hX 2 _ _ _ _ ?_
      conv => whnf
      rw [show nI (4 * i) + 4 = nI (4 * (i + 1)) from by rw [show (4 : Int32) = nI 4 from rfl, nI_add]; rfl]
      exact ih (by simp only [allN]; rw [ha, (dvB_iff (xs i)).mpr c]; rfl)
    · refine am_run hX 3 _ _ _ _ ?_
      conv => whnf
      rw [if_neg (fun q => c ((dvB_iff (xs i)).mp ((all_iff N).mp q i hi2)))] at hP
      exact ⟨rfl, hP⟩
set_option maxRecDepth 100000 in
theorem ct_canLow38 {N : Nat} {xs : Nat → R4} (hN : N ≤ 32) (hs : M.1 36 2 = nI N) : am_M (d + 1) false nm_X6_canLower [aR 36] (mm_l M 38 (cq g N xs)) (am_q1 (aI (if allN (fun j => dvB (xs j)) N = true then 1 else 0)) (mm_l M 38 (cq g N xs))) := by
  refine ⟨rfl, rfl, rfl, fun X hX => am_run hX 2 _ _ _ _ ?_⟩
  conv => whnf
  exact cl_l38 hX hN hs ⟨rfl, rfl⟩ N 0 (by omega) rfl
set_option maxRecDepth 100000 in
theorem lw_138 {P : am_Q} {X : am_X} {N : Nat} {xs : Nat → R4} (hX : am_K (d + 1) false nm_X6_lower P X) (hN : N ≤ 32) (hs : M.1 36 2 = nI N) (hK : X 47 [some (aR 36), some (aI (nI (4 * N)))] [] (mm_l M 38 (cq g N (rotm (fun _ => True) rr xs N)))) : ∀ (m i : Nat), i + m = N → X 26 [some (aR 36), some (aI (nI (4 * i)))] [] (mm_l M 38 (cq g N (rotm (fun _ => True) rr xs i))) := by
  intro m
  induction m with
  | zero =>
    intro i hi
    have hi : i = N := by omega
    subst hi
    refine am_run hX 6 _ _ _ _ ?_
    conv => whnf
    rw [show (mm_l M 38 (cq g i (rotm (fun _ => True) rr xs i))).1 36 2 = nI i from hs, show (4 : Int32) = nI 4 from rfl, nI_mul]
    exact ⟨fun _ => hK, fun c => absurd (nI_le (by omega) (by omega)) c⟩
  | succ m ih =>
    intro i hi
    have ih := ih (i + 1) (by omega)
    refine am_run hX 6 _ _ _ _ ?_
    conv => whnf
    rw [show (mm_l M 38 (cq g N (rotm (fun _ => True) rr xs i))).1 36 2 = nI N from hs, show (4 : Int32) = nI 4 from rfl, nI_mul]
    refine ⟨fun c => absurd c (nI_ge (by omega) (by omega)), fun _ => ?_⟩
    refine am_run hX 5 _ _ _ _ ?_
    conv => whnf
    refine am_c0 (ct_times38 (d := d) hN (by omega)) ?_
    rw [rot_at, rot_s (S := fun _ => True) trivial]
    conv => whnf
    rw [show nI (4 * i) + 4 = nI (4 * (i + 1)) from by rw [show (4 : Int32) = nI 4 from rfl, nI_add]; rfl]
    exact ih
set_option maxRecDepth 100000 in
theorem lw_238 {P : am_Q} {X : am_X} {N : Nat} {xs : Nat → R4} (hX : am_K (d + 1) false nm_X6_lower P X) (hN : N ≤ 32) (hs : M.1 36 2 = nI N) (hb : ∀ j, j < N → ∀ q, q < 4 → -2 ^ 63 ≤ pp (xs j) q ∧ pp (xs j) q < 2 ^ 63) (hK : ∀ l, X 75 [some (aR 36), some (aI l)] [] (mm_l M 38 (cq g N (hf xs (4 * N))))) : ∀ (m p : Nat), p + m = 4 * N → X 49 [some (aR 36), some (aI (nI p))] [] (mm_l M 38 (cq g N (hf xs p))) := by
  intro m
  induction m with
  | zero =>
    intro p hp
    have hp : p = 4 * N := by omega
    subst hp
    refine am_run hX 6 _ _ _ _ ?_
    conv => whnf
    rw [show (mm_l M 38 (cq g N (hf xs (4 * N)))).1 36 2 = nI N from hs, show (4 : Int32) = nI 4 from rfl, nI_mul]
    exact ⟨fun _ => hK _, fun c => absurd (nI_le (by omega) (by omega)) c⟩
  | succ m ih =>
    intro p hp
    have ih := ih (p + 1) (by omega)
    obtain ⟨i, q, hq, rfl⟩ : ∃ i q, q < 4 ∧ p = 4 * i + q := ⟨p / 4, p % 4, Nat.mod_lt _ (by decide), by omega⟩
    have hi : i < N := by omega
    obtain ⟨b1, b2⟩ := hb i hi q hq
    refine am_run hX 6 _ _ _ _ ?_
    conv => whnf
    rw [show (mm_l M 38 (cq g N (hf xs (4 * i + q)))).1 36 2 = nI N from hs, show (4 : Int32) = nI 4 from rfl, nI_mul]
    refine ⟨fun c => absurd c (nI_ge (by omega) (by omega)), fun _ => ?_⟩
    refine am_run hX 10 _ _ _ _ ?_
    conv => whnf
    refine ⟨vp_in_nI (by show _ < 128; omega) (by decide), ?_⟩
    conv => whnf
    refine ⟨vp_in_nI (by show _ < 128; omega) (by decide), ?_⟩
    conv => whnf
    rw [nI_clamp (n := 4 * i + q) (by omega), nI_1, mm_l2, mm_ll, cq_at hi hq, pp_hf _ _ _ hq, if_neg (by omega), lI_sh b1 b2, hf_u hi hq]
    exact ih

set_option maxRecDepth 100000 in
theorem lw_l38 {P : am_Q} {X : am_X} {N : Nat} {F : Nat × (Nat → R4)} (hX : am_K (d + 1) false nm_X6_lower P X) (hN : N ≤ 32) (hP : P (.inl none) (mm_l (mm_i M 36 (upd (upd (M.1 36) 2 (nI N)) 3 (nI F.1))) 38 (cq g N F.2))) : ∀ (k : Nat) (xs : Nat → R4), k < 2 ^ 30 → (∀ j, j < N → bd (xs j)) → lowA N k xs = F → ∀ l, X 0 [some (aR 36), l] [] (mm_l (mm_i M 36 (upd (upd (M.1 36) 2 (nI N)) 3 (nI k))) 38 (cq g N xs)) := by
  intro k
  induction k with
  | zero =>
    intro xs hk hb hF l
    refine am_run hX 5 _ _ _ _ ?_
    conv => whnf
    refine ⟨fun _ => ?_, fun c => absurd (by show (mm_l (mm_i M 36 (upd (upd (M.1 36) 2 (nI N)) 3 (nI 0))) 38 (cq g N xs)).1 36 3 ≤ 0; rw [show (mm_l (mm_i M 36 (upd (upd (M.1 36) 2 (nI N)) 3 (nI 0))) 38 (cq g N xs)).1 36 3 = nI 0 from rfl]; decide) c⟩
    conv => whnf
    subst hF
    exact ⟨trivial, hP⟩
  | succ k ih =>
    intro xs hk hb hF l
    simp only [lowA] at hF
    refine am_run hX 3 _ _ _ _ ?_
    conv => whnf
    rw [show (mm_l (mm_i M 36 (upd (upd (M.1 36) 2 (nI N)) 3 (nI (k + 1)))) 38 (cq g N xs)).1 36 3 = nI (k + 1) from rfl]
    refine ⟨fun c => absurd c (nI_nle (by omega) (by omega)), fun _ => ?_⟩
    refine am_run hX 3 _ _ _ _ ?_
    conv => whnf
    refine am_c1 (ct_canLow38 (d := d) (M := mm_i M 36 (upd (upd (M.1 36) 2 (nI N)) 3 (nI (k + 1)))) hN (by rw [mm_i1]; rfl)) ?_
    by_cases ha : allN (fun j => dvB (xs j)) N = true
    · rw [if_pos ha] at hF ⊢
      conv => whnf
      refine ⟨fun c => absurd c (by decide), fun _ => ?_⟩
      refine am_run hX 8 _ _ _ _ ?_
      conv => whnf
      rw [show (mm_l (mm_i M 36 (upd (upd (M.1 36) 2 (nI N)) 3 (nI (k + 1)))) 38 (cq g N xs)).1 36 3 = nI (k + 1) from rfl, show nI (k + 1) - 1 = nI k from by rw [show (1 : Int32) = nI 1 from rfl, nI_sub (by omega)]; rfl, show (mm_l (mm_i M 36 (upd (upd (M.1 36) 2 (nI N)) 3 (nI (k + 1)))) 38 (cq g N xs)).1 36 = upd (upd (M.1 36) 2 (nI N)) 3 (nI (k + 1)) from rfl, upd_two]
      have em : mm_i (mm_l (mm_i M 36 (upd (upd (M.1 36) 2 (nI N)) 3 (nI (k + 1)))) 38 (cq g N xs)) 36 (upd (upd (M.1 36) 2 (nI N)) 3 (nI k)) = mm_l (mm_i M 36 (upd (upd (M.1 36) 2 (nI N)) 3 (nI k))) 38 (cq g N xs) := by
        show mm_l (mm_i (mm_i M 36 (upd (upd (M.1 36) 2 (nI N)) 3 (nI (k + 1)))) 36 (upd (upd (M.1 36) 2 (nI N)) 3 (nI k))) 38 (cq g N xs) = _
        rw [mm_ii]
      rw [em]
      have key := lw_138 (d := d) (M := mm_i M 36 (upd (upd (M.1 36) 2 (nI N)) 3 (nI k))) (g := g) (xs := xs) hX hN (by rw [mm_i1]; rfl) ?_ N 0 (by omega)
      · rw [rot_0] at key
        exact key
      · refine am_run hX 2 _ _ _ _ ?_
        conv => whnf
        have key2 := lw_238 (d := d) (M := mm_i M 36 (upd (upd (M.1 36) 2 (nI N)) 3 (nI k))) (g := g) (xs := rotm (fun _ => True) rr xs N) hX hN (by rw [mm_i1]; rfl) (fun j hj => by rw [rot_T hj]; exact bd_rr (hb j hj)) ?_ (4 * N) 0 (by omega)
        · rw [hf_0] at key2
          exact key2
        · intro l2
          rw [cq_e (ys := fun j => hv (xs j)) fun j hj => hf_N hj]
          refine am_run hX 1 _ _ _ _ ?_
          conv => whnf
          exact ih (fun j => hv (xs j)) (by omega) (fun j hj => bd_hv (hb j hj)) hF _
    · rw [if_neg ha] at hF ⊢
      conv => whnf
      refine ⟨fun _ => ?_, fun c => absurd rfl c⟩
      refine am_run hX 2 _ _ _ _ ?_
      conv => whnf
      subst hF
      exact ⟨trivial, hP⟩
theorem ct_lower38 {N k : Nat} {xs : Nat → R4} (hN : N ≤ 32) (hk : k < 2 ^ 30) (hb : ∀ j, j < N → bd (xs j)) : am_M (d + 2) false nm_X6_lower [aR 36] (mm_l (mm_i M 36 (upd (upd (M.1 36) 2 (nI N)) 3 (nI k))) 38 (cq g N xs)) (am_q0 (mm_l (mm_i M 36 (upd (upd (M.1 36) 2 (nI N)) 3 (nI (lowA N k xs).1))) 38 (cq g N (lowA N k xs).2))) := by
  refine ⟨rfl, rfl, rfl, fun X hX => ?_⟩
  exact lw_l38 hX hN ⟨rfl, rfl⟩ k xs hk hb rfl _
end EQL
