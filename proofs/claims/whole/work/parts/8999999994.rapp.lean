/-! THE REFERENCE'S GATES ON THE STATE -/
def pr5 (y : R4 × Nat) (p : Nat) : Int64 := if p < 4 then lI (pp y.1 p) else lI y.2
/-- the STATE's row -/
def c5 (g : Nat → Int64) (N : Nat) (ys : Nat → R4 × Nat) : Nat → Int64 := fun p => if p < 5 * N then pr5 (ys (p / 5)) (p % 5) else g p
theorem c5_at {g : Nat → Int64} {N i p : Nat} {ys : Nat → R4 × Nat} (hi : i < N) (hp : p < 5) : c5 g N ys (5 * i + p) = pr5 (ys i) p := by
  unfold c5
  rw [if_pos (by omega), show (5 * i + p) / 5 = i by omega, show (5 * i + p) % 5 = p by omega]
theorem c5_5 {g : Nat → Int64} {N i : Nat} {ys : Nat → R4 × Nat} (hi : i < N) : at5 (c5 g N ys) (5 * i) (ys i).1 (ys i).2 := ⟨c5_at (p := 0) hi (by decide), c5_at (p := 1) hi (by decide), c5_at (p := 2) hi (by decide), c5_at (p := 3) hi (by decide), c5_at (p := 4) hi (by decide)⟩
theorem ov_pr {f : Nat → Int64} {y : R4 × Nat} {p : Nat} (hp : p < 5) : ov f y.1 y.2 p = pr5 y p := by
  rcases (by omega : p = 0 ∨ p = 1 ∨ p = 2 ∨ p = 3 ∨ p = 4) with rfl | rfl | rfl | rfl | rfl <;> rfl
theorem c5_sv {g f : Nat → Int64} {N i : Nat} {ys : Nat → R4 × Nat} (y : R4 × Nat) (hi : i < N) : sv (c5 g N ys) (5 * i) (ov f y.1 y.2) = c5 g N (sta ys i y) := by
  funext q
  unfold sv
  by_cases h : 5 * i ≤ q ∧ q < 5 * i + 5
  · rw [if_pos h, ov_pr (by omega)]
    unfold c5 sta
    rw [if_pos (by omega), if_pos (by omega), show q % 5 = q - 5 * i by omega]
  · rw [if_neg h]
    unfold c5 sta
    by_cases h2 : q < 5 * N
    · rw [if_pos h2, if_pos h2, if_neg (by omega)]
    · rw [if_neg h2, if_neg h2]
theorem c5_of {M : mm_M} {c N : Nat} {ys : Nat → R4 × Nat} (hl : ∀ j, j < N → (ys j).2 < 2 ^ 31) (h : ∀ j, j < N → rf_at M c j (ys j)) : M.2 c = c5 (M.2 c) N ys := by
  funext q
  unfold c5
  by_cases h2 : q < 5 * N
  · rw [if_pos h2]
    obtain ⟨a0, a1, a2, a3, a4⟩ := (at_rf (hl (q / 5) (by omega))).mp (h (q / 5) (by omega))
    rcases (by omega : q % 5 = 0 ∨ q % 5 = 1 ∨ q % 5 = 2 ∨ q % 5 = 3 ∨ q % 5 = 4) with e | e | e | e | e
    · rw [e]
      conv => lhs; rw [show q = 5 * (q / 5) by omega]
      exact a0
    · rw [e]
      conv => lhs; rw [show q = 5 * (q / 5) + 1 by omega]
      exact a1
    · rw [e]
      conv => lhs; rw [show q = 5 * (q / 5) + 2 by omega]
      exact a2
    · rw [e]
      conv => lhs; rw [show q = 5 * (q / 5) + 3 by omega]
      exact a3
    · rw [e]
      conv => lhs; rw [show q = 5 * (q / 5) + 4 by omega]
      exact a4
  · rw [if_neg h2]
theorem c5_rf {M : mm_M} {c N : Nat} {g : Nat → Int64} {ys : Nat → R4 × Nat} (h : M.2 c = c5 g N ys) {j : Nat} (hj : j < N) (hl : (ys j).2 < 2 ^ 31) : rf_at M c j (ys j) := by
  rw [at_rf hl, h]
  exact c5_5 hj
theorem c5_e {g : Nat → Int64} {N : Nat} {xs ys : Nat → R4 × Nat} (h : ∀ i, i < N → xs i = ys i) : c5 g N xs = c5 g N ys := by
  funext q
  unfold c5
  by_cases h2 : q < 5 * N
  · rw [if_pos h2, if_pos h2, h _ (by omega)]
  · rw [if_neg h2, if_neg h2]
/-- the work rows and the STATE -/
def v4 (M : mm_M) (q o f s : Nat → Int64) : mm_M := mm_l (mm_l (mm_l (mm_l M 152 q) 119 o) 118 f) 150 s
theorem v4_f (M : mm_M) (q o f s f' : Nat → Int64) : mm_l (v4 M q o f s) 118 f' = v4 M q o f' s := by
  unfold v4
  rw [mm_lc _ 150 118 _ _ (by decide), mm_ll]
theorem v4_s (M : mm_M) (q o f s s' : Nat → Int64) : mm_l (v4 M q o f s) 150 s' = v4 M q o f s' := by
  unfold v4
  rw [mm_ll]
theorem v4_o (M : mm_M) (q o f s o' : Nat → Int64) : mm_l (v4 M q o f s) 119 o' = v4 M q o' f s := by
  unfold v4
  rw [mm_lc _ 150 119 _ _ (by decide), mm_lc _ 118 119 _ _ (by decide), mm_ll]
theorem v4_q (M : mm_M) (q o f s q' : Nat → Int64) : mm_l (v4 M q o f s) 152 q' = v4 M q' o f s := by
  unfold v4
  rw [mm_lc _ 150 152 _ _ (by decide), mm_lc _ 118 152 _ _ (by decide), mm_lc _ 119 152 _ _ (by decide), mm_ll]
theorem v4_z (M : mm_M) : v4 M (M.2 152) (M.2 119) (M.2 118) (M.2 150) = M := by
  unfold v4
  rw [mm_lz, mm_lz, mm_lz, mm_lz]
theorem v4_150 (M : mm_M) (q o f s : Nat → Int64) : (v4 M q o f s).2 150 = s := rfl
theorem v4_118 (M : mm_M) (q o f s : Nat → Int64) : (v4 M q o f s).2 118 = f := rfl
theorem v4_119 (M : mm_M) (q o f s : Nat → Int64) : (v4 M q o f s).2 119 = o := rfl
theorem v4_152 (M : mm_M) (q o f s : Nat → Int64) : (v4 M q o f s).2 152 = q := rfl
def sp5 (y z : R4 × Nat) (p : Nat) : R4 × Nat := if p < 4 then (sp y.1 p (pp z.1 p), y.2) else (y.1, z.2)
theorem pr_sp (y z : R4 × Nat) {p q : Nat} (hp : p < 5) (hq : q < 5) : pr5 (sp5 y z p) q = if q = p then pr5 z p else pr5 y q := by
  obtain ⟨⟨a, b, c, d⟩, e⟩ := y
  obtain ⟨⟨a', b', c', d'⟩, e'⟩ := z
  rcases (by omega : p = 0 ∨ p = 1 ∨ p = 2 ∨ p = 3 ∨ p = 4) with rfl | rfl | rfl | rfl | rfl <;> rcases (by omega : q = 0 ∨ q = 1 ∨ q = 2 ∨ q = 3 ∨ q = 4) with rfl | rfl | rfl | rfl | rfl <;> rfl
def st5 (ys : Nat → R4 × Nat) (i p : Nat) (z : R4 × Nat) : Nat → R4 × Nat := fun k => if k = i then sp5 (ys k) z p else ys k
theorem c5_u {g : Nat → Int64} {N i p : Nat} {ys : Nat → R4 × Nat} (z : R4 × Nat) (hi : i < N) (hp : p < 5) : vp_updL (c5 g N ys) (5 * i + p) (pr5 z p) = c5 g N (st5 ys i p z) := by
  funext q
  unfold vp_updL
  by_cases h : q = 5 * i + p
  · subst h
    rw [if_pos rfl, c5_at hi hp]
    unfold st5
    rw [if_pos rfl, pr_sp _ _ hp hp, if_pos rfl]
  · rw [if_neg h]
    unfold c5
    by_cases h2 : q < 5 * N
    · rw [if_pos h2, if_pos h2]
      unfold st5
      by_cases h3 : q / 5 = i
      · rw [if_pos h3, pr_sp _ _ hp (Nat.mod_lt _ (by decide)), if_neg (by omega)]
      · rw [if_neg h3]
    · rw [if_neg h2, if_neg h2]
def se5 (ys : Nat → R4 × Nat) (i j p : Nat) : Nat → R4 × Nat := st5 (st5 ys i p (ys j)) j p (ys i)
theorem se_5 (ys : Nat → R4 × Nat) {i j : Nat} (h : i ≠ j) : se5 (se5 (se5 (se5 (se5 ys i j 0) i j 1) i j 2) i j 3) i j 4 = sta (sta ys i (ys j)) j (ys i) := by
  have hji : ¬ j = i := fun e => h e.symm
  funext k
  unfold se5 sta
  by_cases h1 : k = i
  · subst h1
    simp only [st5, if_pos, if_neg h, if_neg hji]
    rfl
  · by_cases h2 : k = j
    · subst h2
      simp only [st5, if_pos, if_neg h, if_neg hji]
      rfl
    · simp only [st5, if_neg h1, if_neg h2]
section RAP
variable {d : Nat} {M : mm_M} {g : Nat → Int64}
set_option maxRecDepth 100000 in
theorem se_b {P : am_Q} {X : am_X} {N i j p : Nat} {ys : Nat → R4 × Nat} (hX : am_K d false nm_X12_exchange P X) (hN : N ≤ 256) (hi : i < N) (hj : j < N) (hp : p < 5) (hK : ∀ l4 l5, X 2 [some (aR 108), some (aI (nI i)), some (aI (nI j)), some (aI (nI (p + 1))), l4, l5] [] (mm_l M 150 (c5 g N (se5 ys i j p)))) (l4 l5 : Option am_V) : X 2 [some (aR 108), some (aI (nI i)), some (aI (nI j)), some (aI (nI p)), l4, l5] [] (mm_l M 150 (c5 g N ys)) := by
  have eA : (5 : Int32) * nI i + nI p = nI (5 * i + p) := by rw [show (5 : Int32) = nI 5 from rfl, nI_mul, nI_add]
  have eB : (5 : Int32) * nI j + nI p = nI (5 * j + p) := by rw [show (5 : Int32) = nI 5 from rfl, nI_mul, nI_add]
  refine am_run hX 3 _ _ _ _ ?_
  conv => whnf
  refine ⟨fun c => absurd c (nI_ge (a := p) (b := 5) hp (by decide)), fun _ => ?_⟩
  refine am_run hX 36 _ _ _ _ ?_
  conv => whnf
  rw [eA]
  refine ⟨vp_in_nI (by show _ < 1280; omega) (by decide), ?_⟩
  conv => whnf
  try rw [eA]
  rw [eB]
  refine ⟨vp_in_nI (by show _ < 1280; omega) (by decide), ?_⟩
  conv => whnf
  try rw [eA]
  refine ⟨vp_in_nI (by show _ < 1280; omega) (by decide), ?_⟩
  conv => whnf
  try rw [eB]
  refine ⟨vp_in_nI (by show _ < 1280; omega) (by decide), ?_⟩
  conv => whnf
  rw [nI_clamp (n := 5 * i + p) (by omega), nI_clamp (n := 5 * j + p) (by omega), nI_1]
  simp only [mm_l2, mm_ll, c5_at hi hp, c5_at hj hp, c5_u _ hi hp, c5_u _ hj hp]
  exact hK _ _
set_option maxRecDepth 100000 in
theorem ct_exc5 {N i j : Nat} {ys : Nat → R4 × Nat} (hN : N ≤ 256) (hi : i < N) (hj : j < N) (hij : i ≠ j) : am_M (d + 1) false nm_X12_exchange [aR 108, aI (nI i), aI (nI j)] (mm_l M 150 (c5 g N ys)) (am_q0 (mm_l M 150 (c5 g N (sta (sta ys i (ys j)) j (ys i))))) := by
  refine ⟨rfl, rfl, rfl, fun X hX => am_run hX 2 _ _ _ _ ?_⟩
  conv => whnf
  refine se_b (p := 0) hX hN hi hj (by decide) (se_b (p := 1) hX hN hi hj (by decide) (se_b (p := 2) hX hN hi hj (by decide) (se_b (p := 3) hX hN hi hj (by decide) (se_b (p := 4) hX hN hi hj (by decide) ?_)))) _ _
  intro l4 l5
  rw [se_5 ys hij]
  refine am_run hX 10 _ _ _ _ ?_
  conv => whnf
  refine ⟨fun _ => ?_, fun c => absurd (by decide) c⟩
  conv => whnf
  exact ⟨trivial, rfl, rfl⟩
theorem m7_lt {e : Nat} (h : e < 8) : nI e &&& 7 = nI e := by rw [nI_m7, Nat.mod_eq_of_lt h]
set_option maxRecDepth 100000 in
theorem ct_turnAt {N j e : Nat} {q o f : Nat → Int64} {ys : Nat → R4 × Nat} (hN : N ≤ 256) (hj : j < N) (he : e < 8) : am_M (d + 2) false nm_X12_turnAt [aR 108, aI (nI j), aI (nI e)] (v4 M q o f (c5 g N ys)) (am_q0 (v4 M q o (ov f (t8n e (ys j).1) (ys j).2) (c5 g N (sta ys j (t8n e (ys j).1, (ys j).2))))) := by
  refine ⟨rfl, rfl, rfl, fun X hX => am_run hX 40 _ _ _ _ ?_⟩
  conv => whnf
  rw [show (5 : Int32) = nI 5 from rfl, nI_mul]
  refine am_c0 (ct_ld150 (d := d) (by omega) (c5_5 hj)) ?_
  conv => whnf
  refine am_c0 (ct_turn1 (d := d) he (m7_lt he)) ?_
  conv => whnf
  rw [show (5 : Int32) = nI 5 from rfl, nI_mul]
  refine am_c0 (ct_store150 (d := d) (by omega)) ?_
  rw [v4_f, v4_s, v4_150, v4_118, v4_118, c5_sv (t8n e (ys j).1, (ys j).2) hj]
  conv => whnf
  exact ⟨trivial, rfl, rfl⟩
set_option maxRecDepth 100000 in
theorem ct_one0 {x : R4} {k : Nat} (hb : bd x) : am_M (d + 1) false nm_X12_isOneZero [aR 108] (mm_l M 118 (ov g x k)) (am_q1 (aI (if x = (0, 0, 0, 0) then 1 else 0)) (mm_l M 118 (ov g x k))) := by
  have hbb := hb
  simp only [bd] at hbb
  have hz := r4_0 hb
  refine ⟨rfl, rfl, rfl, fun X hX => am_run hX 60 _ _ _ _ ?_⟩
  conv => whnf
  refine ⟨by first | exact i5_0 | exact i5_1 | exact i5_2 | exact i5_3 | exact i5_4 | exact i5_01 | exact i5_02 | exact i5_03 | exact i5_04 | decide, ?_⟩
  conv => whnf
  simp only [mm_l2, k_0, ov_0]
  rw [lg_0]
  refine ⟨fun c => ?_, fun c0 => ?_⟩
  · conv => whnf
    rw [if_neg (fun e => c (hz.mp e).1)]
    exact ⟨rfl, rfl, rfl⟩
  conv => whnf
  refine ⟨by first | exact i5_0 | exact i5_1 | exact i5_2 | exact i5_3 | exact i5_4 | exact i5_01 | exact i5_02 | exact i5_03 | exact i5_04 | decide, ?_⟩
  conv => whnf
  simp only [mm_l2, k_1, ov_1]
  rw [lg_0]
  refine ⟨fun c => ?_, fun c1 => ?_⟩
  · conv => whnf
    rw [if_neg (fun e => c (hz.mp e).2.1)]
    exact ⟨rfl, rfl, rfl⟩
  conv => whnf
  refine ⟨by first | exact i5_0 | exact i5_1 | exact i5_2 | exact i5_3 | exact i5_4 | exact i5_01 | exact i5_02 | exact i5_03 | exact i5_04 | decide, ?_⟩
  conv => whnf
  simp only [mm_l2, k_2, ov_2]
  rw [lg_0]
  refine ⟨fun c => ?_, fun c2 => ?_⟩
  · conv => whnf
    rw [if_neg (fun e => c (hz.mp e).2.2.1)]
    exact ⟨rfl, rfl, rfl⟩
  conv => whnf
  refine ⟨by first | exact i5_0 | exact i5_1 | exact i5_2 | exact i5_3 | exact i5_4 | exact i5_01 | exact i5_02 | exact i5_03 | exact i5_04 | decide, ?_⟩
  conv => whnf
  simp only [mm_l2, k_3, ov_3]
  rw [lg_0]
  refine ⟨fun c => ?_, fun c3 => ?_⟩
  · conv => whnf
    rw [if_neg (fun e => c (hz.mp e).2.2.2)]
    exact ⟨rfl, rfl, rfl⟩
  conv => whnf
  rw [if_pos (hz.mpr ⟨Decidable.byContradiction c0, Decidable.byContradiction c1, Decidable.byContradiction c2, Decidable.byContradiction c3⟩)]
  exact ⟨rfl, rfl, rfl⟩
end RAP
