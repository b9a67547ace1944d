/-! THE CLASS'S GATES ON A ROW OF ROOTS -/
/-- a row of ROOTS, four parts each -/
def cq (g : Nat → Int64) (N : Nat) (xs : Nat → R4) : Nat → Int64 := fun p => if p < 4 * N then lI (pp (xs (p / 4)) (p % 4)) else g p
theorem cq_at {g : Nat → Int64} {N i p : Nat} {xs : Nat → R4} (hi : i < N) (hp : p < 4) : cq g N xs (4 * i + p) = lI (pp (xs i) p) := by
  unfold cq
  rw [if_pos (by omega), show (4 * i + p) / 4 = i by omega, show (4 * i + p) % 4 = p by omega]
/-- a part laid -/
def sp (x : R4) (p : Nat) (v : Int) : R4 := if p = 0 then (v, x.2.1, x.2.2.1, x.2.2.2) else if p = 1 then (x.1, v, x.2.2.1, x.2.2.2) else if p = 2 then (x.1, x.2.1, v, x.2.2.2) else (x.1, x.2.1, x.2.2.1, v)
theorem pp_sp (x : R4) {p q : Nat} (v : Int) (hp : p < 4) (hq : q < 4) : pp (sp x p v) q = if q = p then v else pp x q := by
  obtain ⟨a, b, c, d⟩ := x
  rcases (by omega : p = 0 ∨ p = 1 ∨ p = 2 ∨ p = 3) with rfl | rfl | rfl | rfl <;> rcases (by omega : q = 0 ∨ q = 1 ∨ q = 2 ∨ q = 3) with rfl | rfl | rfl | rfl <;> rfl
def stpp (xs : Nat → R4) (i p : Nat) (v : Int) : Nat → R4 := fun k => if k = i then sp (xs k) p v else xs k
def stx (xs : Nat → R4) (i : Nat) (v : R4) : Nat → R4 := fun k => if k = i then v else xs k
theorem cq_u {g : Nat → Int64} {N i p : Nat} {xs : Nat → R4} (v : Int) (hi : i < N) (hp : p < 4) : vp_updL (cq g N xs) (4 * i + p) (lI v) = cq g N (stpp xs i p v) := by
  funext q
  unfold vp_updL
  by_cases h : q = 4 * i + p
  · subst h
    rw [if_pos rfl, cq_at hi hp]
    unfold stpp
    rw [if_pos rfl, pp_sp _ _ hp hp, if_pos rfl]
  · rw [if_neg h]
    unfold cq
    by_cases h2 : q < 4 * N
    · rw [if_pos h2, if_pos h2]
      unfold stpp
      by_cases h3 : q / 4 = i
      · rw [if_pos h3, pp_sp _ _ hp (Nat.mod_lt _ (by decide)), if_neg (by omega)]
      · rw [if_neg h3]
    · rw [if_neg h2, if_neg h2]
theorem cq_u0 {g : Nat → Int64} {N i : Nat} {xs : Nat → R4} (v : Int) (hi : i < N) : vp_updL (cq g N xs) (4 * i) (lI v) = cq g N (stpp xs i 0 v) := cq_u (p := 0) v hi (by decide)
theorem cq_at0 {g : Nat → Int64} {N i : Nat} {xs : Nat → R4} (hi : i < N) : cq g N xs (4 * i) = lI (pp (xs i) 0) := cq_at (p := 0) hi (by decide)
theorem cq_e {g : Nat → Int64} {N : Nat} {xs ys : Nat → R4} (h : ∀ i, i < N → xs i = ys i) : cq g N xs = cq g N ys := by
  funext q
  unfold cq
  by_cases h2 : q < 4 * N
  · rw [if_pos h2, if_pos h2, h _ (by omega)]
  · rw [if_neg h2, if_neg h2]
theorem cq_of {M : mm_M} {c N : Nat} {xs : Nat → R4} (h : ∀ j, j < N → rt_at M c j (xs j)) : M.2 c = cq (M.2 c) N xs := by
  funext q
  unfold cq
  by_cases h2 : q < 4 * N
  · rw [if_pos h2]
    obtain ⟨a1, a2, a3, a4⟩ := h (q / 4) (by omega)
    rcases (by omega : q % 4 = 0 ∨ q % 4 = 1 ∨ q % 4 = 2 ∨ q % 4 = 3) with e | e | e | e
    · rw [e]
      conv => lhs; rw [show q = 4 * (q / 4) by omega]
      exact a1
    · rw [e]
      conv => lhs; rw [show q = 4 * (q / 4) + 1 by omega]
      exact a2
    · rw [e]
      conv => lhs; rw [show q = 4 * (q / 4) + 2 by omega]
      exact a3
    · rw [e]
      conv => lhs; rw [show q = 4 * (q / 4) + 3 by omega]
      exact a4
  · rw [if_neg h2]
theorem cq_rt {M : mm_M} {c N : Nat} {g : Nat → Int64} {xs : Nat → R4} (h : M.2 c = cq g N xs) {j : Nat} (hj : j < N) : rt_at M c j (xs j) := by
  unfold rt_at
  rw [h]
  exact ⟨cq_at0 hj, cq_at (p := 1) hj (by decide), cq_at (p := 2) hj (by decide), cq_at (p := 3) hj (by decide)⟩
def swp (xs : Nat → R4) (i j : Nat) : Nat → R4 := fun k => if k = i then xs j else if k = j then xs i else xs k
def sw1p (xs : Nat → R4) (i j p : Nat) : Nat → R4 := stpp (stpp xs i p (pp (xs j) p)) j p (pp (xs i) p)
theorem sw_4 (xs : Nat → R4) {i j : Nat} (h : i ≠ j) : sw1p (sw1p (sw1p (sw1p xs i j 0) i j 1) i j 2) i j 3 = swp xs i j := by
  have hji : ¬ j = i := fun e => h e.symm
  funext k
  unfold sw1p swp
  by_cases h1 : k = i
  · subst h1
    simp only [stpp, if_pos, if_neg h, if_neg hji]
    rfl
  · by_cases h2 : k = j
    · subst h2
      simp only [stpp, if_pos, if_neg h, if_neg hji]
      rfl
    · simp only [stpp, if_neg h1, if_neg h2]
theorem t8_4 (x : R4) : t8n 4 x = ng x := rfl
/-- after a loop over those that are chosen -/
def rotm (S : Nat → Prop) [∀ i, Decidable (S i)] (F : R4 → R4) (xs : Nat → R4) (m : Nat) : Nat → R4 := fun k => if S k ∧ k < m then F (xs k) else xs k
theorem rot_s {S : Nat → Prop} [∀ i, Decidable (S i)] {F : R4 → R4} {xs : Nat → R4} {m : Nat} (h : S m) : stx (rotm S F xs m) m (F (xs m)) = rotm S F xs (m + 1) := by
  funext k
  unfold stx rotm
  by_cases e : k = m
  · subst e
    rw [if_pos rfl, if_pos ⟨h, by omega⟩]
  · rw [if_neg e]
    by_cases h2 : S k ∧ k < m
    · rw [if_pos h2, if_pos ⟨h2.1, by omega⟩]
    · rw [if_neg h2, if_neg (fun q => h2 ⟨q.1, by omega⟩)]
theorem rot_n {S : Nat → Prop} [∀ i, Decidable (S i)] {F : R4 → R4} {xs : Nat → R4} {m : Nat} (h : ¬ S m) : rotm S F xs m = rotm S F xs (m + 1) := by
  funext k
  unfold rotm
  by_cases h2 : S k ∧ k < m
  · rw [if_pos h2, if_pos ⟨h2.1, by omega⟩]
  · rw [if_neg h2, if_neg (fun q => h2 ⟨q.1, by
      apply Decidable.byContradiction
      intro hc
      have : k = m := by omega
      subst this
      exact h q.1⟩)]
theorem rot_at {S : Nat → Prop} [∀ i, Decidable (S i)] {F : R4 → R4} {xs : Nat → R4} {m : Nat} : rotm S F xs m m = xs m := by
  unfold rotm
  rw [if_neg (by omega)]
theorem rot_0 {S : Nat → Prop} [∀ i, Decidable (S i)] {F : R4 → R4} {xs : Nat → R4} : rotm S F xs 0 = xs := by
  funext k
  unfold rotm
  rw [if_neg (by omega)]
/-- after a loop that exchanges the chosen with others -/
def exm (S : Nat → Prop) [∀ i, Decidable (S i)] (c : Nat) (xs : Nat → R4) (m : Nat) : Nat → R4 := fun k => if (S k ∧ k < m) ∨ (S (k ^^^ c) ∧ k ^^^ c < m) then xs (k ^^^ c) else xs k
theorem xx_c (k c : Nat) : k ^^^ c ^^^ c = k := by rw [Nat.xor_assoc, Nat.xor_self, Nat.xor_zero]
theorem exm_s {S : Nat → Prop} [∀ i, Decidable (S i)] {c : Nat} {xs : Nat → R4} {m : Nat} (h : S m) (hn : ¬ S (m ^^^ c)) : swp (exm S c xs m) m (m ^^^ c) = exm S c xs (m + 1) := by
  have hne : ¬ m ^^^ c = m := fun e => hn (by rw [e]; exact h)
  funext k
  unfold swp
  by_cases e : k = m
  · subst e
    rw [if_pos rfl]
    unfold exm
    rw [if_neg (by
      rintro (q | q)
      · exact hn q.1
      · rw [xx_c] at q
        omega), if_pos (Or.inl ⟨h, by omega⟩)]
  · rw [if_neg e]
    by_cases e2 : k = m ^^^ c
    · subst e2
      rw [if_pos rfl]
      unfold exm
      rw [if_neg (by
        rintro (q | q)
        · omega
        · exact hn q.1), if_pos (Or.inr (by rw [xx_c]; exact ⟨h, by omega⟩)), xx_c]
    · rw [if_neg e2]
      unfold exm
      by_cases h2 : (S k ∧ k < m) ∨ (S (k ^^^ c) ∧ k ^^^ c < m)
      · rw [if_pos h2, if_pos (by
          rcases h2 with q | q
          · exact Or.inl ⟨q.1, by omega⟩
          · exact Or.inr ⟨q.1, by omega⟩)]
      · rw [if_neg h2, if_neg (by
          rintro (q | q)
          · exact h2 (Or.inl ⟨q.1, by omega⟩)
          · refine h2 (Or.inr ⟨q.1, ?_⟩)
            have : k ^^^ c ≠ m := fun e3 => e2 (by rw [← e3, xx_c])
            omega)]
theorem exm_n {S : Nat → Prop} [∀ i, Decidable (S i)] {c : Nat} {xs : Nat → R4} {m : Nat} (h : ¬ S m) : exm S c xs m = exm S c xs (m + 1) := by
  have hk : ∀ k, (S k ∧ k < m) ↔ (S k ∧ k < m + 1) := fun k => by
    constructor
    · intro q
      exact ⟨q.1, by omega⟩
    · intro q
      refine ⟨q.1, ?_⟩
      apply Decidable.byContradiction
      intro hc
      have : k = m := by omega
      subst this
      exact h q.1
  funext k
  unfold exm
  simp only [hk]
theorem exm_0 {S : Nat → Prop} [∀ i, Decidable (S i)] {c : Nat} {xs : Nat → R4} : exm S c xs 0 = xs := by
  funext k
  unfold exm
  rw [if_neg (by omega)]
/-- h: those without the CONTROLS are taken r times, the others are added and taken away -/
def blm (A B : Nat → Prop) [∀ i, Decidable (A i)] [∀ i, Decidable (B i)] (c : Nat) (xs : Nat → R4) (m : Nat) : Nat → R4 := fun k => if A k then (if B k then (if k ^^^ c < m then ra (xs (k ^^^ c)) (ng (xs k)) else xs k) else (if k < m then ra (xs k) (xs (k ^^^ c)) else xs k)) else (if k < m then rr (xs k) else xs k)
section CAP
variable {d : Nat} {M : mm_M} {g : Nat → Int64}
set_option maxRecDepth 100000 in
theorem sw_b20 {P : am_Q} {X : am_X} {N i j p : Nat} {xs : Nat → R4} (hX : am_K d false nm_X6_swap P X) (hN : N ≤ 256) (hi : i < N) (hj : j < N) (hp : p < 4) (hK : ∀ l4 l5, X 2 [some (aR 18), some (aI (nI (4 * i))), some (aI (nI (4 * j))), some (aI (nI (p + 1))), l4, l5] [] (mm_l M 20 (cq g N (sw1p xs i j p)))) (l4 l5 : Option am_V) : X 2 [some (aR 18), some (aI (nI (4 * i))), some (aI (nI (4 * j))), some (aI (nI p)), l4, l5] [] (mm_l M 20 (cq g N xs)) := by
  refine am_run hX 3 _ _ _ _ ?_
  conv => whnf
  refine ⟨fun c => absurd c (nI_ge (a := p) (b := 4) hp (by decide)), fun _ => ?_⟩
  refine am_run hX 28 _ _ _ _ ?_
  conv => whnf
  rw [nI_add]
  refine ⟨vp_in_nI (by show _ < 1024; omega) (by decide), ?_⟩
  conv => whnf
  rw [nI_add]
  refine ⟨vp_in_nI (by show _ < 1024; omega) (by decide), ?_⟩
  conv => whnf
  rw [nI_add]
  refine ⟨vp_in_nI (by show _ < 1024; omega) (by decide), ?_⟩
  conv => whnf
  rw [nI_add]
  refine ⟨vp_in_nI (by show _ < 1024; omega) (by decide), ?_⟩
  conv => whnf
  rw [nI_clamp (n := 4 * i + p) (by omega), nI_clamp (n := 4 * j + p) (by omega), nI_1]
  simp only [mm_l2, mm_ll, cq_at hi hp, cq_at hj hp, cq_u _ hi hp, cq_u _ hj hp]
  exact hK _ _
set_option maxRecDepth 100000 in
theorem ct_swap20 {N i j : Nat} {xs : Nat → R4} (hN : N ≤ 256) (hi : i < N) (hj : j < N) (hij : i ≠ j) : am_M (d + 1) false nm_X6_swap [aR 18, aI (nI (4 * i)), aI (nI (4 * j))] (mm_l M 20 (cq g N xs)) (am_q0 (mm_l M 20 (cq g N (swp xs i j)))) := by
  refine ⟨rfl, rfl, rfl, fun X hX => am_run hX 2 _ _ _ _ ?_⟩
  conv => whnf
  refine sw_b20 (p := 0) hX hN hi hj (by decide) (sw_b20 (p := 1) hX hN hi hj (by decide) (sw_b20 (p := 2) hX hN hi hj (by decide) (sw_b20 (p := 3) hX hN hi hj (by decide) ?_))) _ _
  intro l4 l5
  rw [sw_4 xs hij]
  refine am_run hX 10 _ _ _ _ ?_
  conv => whnf
  refine ⟨fun _ => ?_, fun c => absurd (by decide) c⟩
  conv => whnf
  exact ⟨trivial, rfl, rfl⟩
set_option maxRecDepth 100000 in
theorem ex_l20 {P : am_Q} {X : am_X} {N c : Nat} {mk v : Int32} {xs : Nat → R4} (hX : am_K (d + 1) false nm_X6_exchange P X) (hN : N ≤ 256) (hs : M.1 18 2 = nI N) (hc : ∀ i, i < N → nI i &&& mk = v → i ^^^ c < N ∧ ¬ nI (i ^^^ c) &&& mk = v) (hP : P (.inl none) (mm_l M 20 (cq g N (exm (fun i => nI i &&& mk = v) c xs N)))) : ∀ (m i : Nat), i + m = N → X 3 [some (aR 18), some (aI mk), some (aI v), some (aI (nI c)), some (aI (nI i))] [] (mm_l M 20 (cq g N (exm (fun i => nI i &&& mk = v) c xs i))) := by
  intro m
  induction m with
  | zero =>
    intro i hi
    have hi : i = N := by omega
    subst hi
    refine am_run hX 10 _ _ _ _ ?_
    conv => whnf
    rw [show (mm_l M 20 (cq g i (exm (fun i => nI i &&& mk = v) c xs i))).1 18 2 = nI i from hs]
    refine ⟨fun _ => ?_, fun c => absurd (nI_le (by omega) (by omega)) c⟩
    conv => whnf
    exact ⟨trivial, hP⟩
  | succ m ih =>
    intro i hi
    have ih := ih (i + 1) (by omega)
    refine am_run hX 4 _ _ _ _ ?_
    conv => whnf
    rw [show (mm_l M 20 (cq g N (exm (fun i => nI i &&& mk = v) c xs i))).1 18 2 = nI N from hs]
    refine ⟨fun c => absurd c (nI_ge (by omega) (by omega)), fun _ => ?_⟩
    refine am_run hX 5 _ _ _ _ ?_
    conv => whnf
    refine ⟨fun q => ?_, fun q => ?_⟩
    · refine am_run hX 2 _ _ _ _ ?_
      conv => whnf
      rw [nI_1]
      rw [← exm_n (S := fun i => nI i &&& mk = v) q] at ih
      exact ih
    · have q : nI i &&& mk = v := Decidable.byContradiction q
      obtain ⟨h1, h2⟩ := hc i (by omega) q
      refine am_run hX 12 _ _ _ _ ?_
      conv => whnf
      rw [nI_xor, show (4 : Int32) = nI 4 from rfl, nI_mul, nI_mul]
      refine am_c0 (ct_swap20 (d := d) hN (by omega) h1 (fun e => h2 (by rw [← e]; exact q))) ?_
      rw [exm_s (S := fun i => nI i &&& mk = v) q h2]
      conv => whnf
      rw [nI_1]
      exact ih
set_option maxRecDepth 100000 in
theorem ct_exch20 {N c : Nat} {mk v : Int32} {xs : Nat → R4} (hN : N ≤ 256) (hs : M.1 18 2 = nI N) (hc : ∀ i, i < N → nI i &&& mk = v → i ^^^ c < N ∧ ¬ nI (i ^^^ c) &&& mk = v) : am_M (d + 2) false nm_X6_exchange [aR 18, aI mk, aI v, aI (nI c)] (mm_l M 20 (cq g N xs)) (am_q0 (mm_l M 20 (cq g N (exm (fun i => nI i &&& mk = v) c xs N)))) := by
  refine ⟨rfl, rfl, rfl, fun X hX => am_run hX 2 _ _ _ _ ?_⟩
  conv => whnf
  have key := ex_l20 (d := d) (M := M) (g := g) (xs := xs) hX hN hs hc ⟨rfl, rfl⟩ N 0 (by omega)
  rw [exm_0] at key
  exact key
theorem stx_stx (xs : Nat → R4) (k : Nat) (x y : R4) : stx (stx xs k x) k y = stx xs k y := by
  funext j
  unfold stx
  by_cases h : j = k
  · rw [if_pos h, if_pos h]
  · rw [if_neg h, if_neg h, if_neg h]
theorem stx_at (xs : Nat → R4) (k : Nat) (x : R4) : stx xs k x k = x := if_pos rfl
theorem stx_z (xs : Nat → R4) (k : Nat) : stx xs k (xs k) = xs := by
  funext j
  unfold stx
  by_cases h : j = k
  · rw [if_pos h, h]
  · rw [if_neg h]
theorem stp_x (xs : Nat → R4) (k p : Nat) (x : R4) (v : Int) : stpp (stx xs k x) k p v = stx xs k (sp x p v) := by
  funext j
  unfold stpp stx
  by_cases h : j = k
  · rw [if_pos h, if_pos h, if_pos h]
  · rw [if_neg h, if_neg h, if_neg h]
set_option maxRecDepth 100000 in
theorem ro_l20 {P : am_Q} {X : am_X} {N k e : Nat} {xs : Nat → R4} {F : R4} (hX : am_K d false nm_X6_rotateOne P X) (hN : N ≤ 256) (hk : k < N) (he : e < 8) (hK : ∀ l4 l5, X 80 [some (aR 18), some (aI (nI (4 * k))), some (aI (nI e)), some (aI (nI (e % 4))), l4, l5] [] (mm_l M 20 (cq g N (stx xs k F)))) : ∀ (m i : Nat) (x : R4), i + m = e % 4 → t8n m x = F → ∀ l4 l5, X 2 [some (aR 18), some (aI (nI (4 * k))), some (aI (nI e)), some (aI (nI i)), l4, l5] [] (mm_l M 20 (cq g N (stx xs k x))) := by
  have h3 : nI e &&& 3 = nI (e % 4) := a3 e (by omega)
  have e1 : nI (4 * k) + 1 = nI (4 * k + 1) := nI_1 _
  have e2 : nI (4 * k) + 2 = nI (4 * k + 2) := by rw [show (2 : Int32) = nI 2 from rfl, nI_add]
  have e3 : nI (4 * k) + 3 = nI (4 * k + 3) := by rw [show (3 : Int32) = nI 3 from rfl, nI_add]
  intro m
  induction m with
  | zero =>
    intro i x hi hF l4 l5
    have hi : i = e % 4 := by omega
    subst hi
    subst hF
    refine am_run hX 5 _ _ _ _ ?_
    conv => whnf
    rw [h3]
    exact ⟨fun _ => hK _ _, fun c => absurd (nI_le (by omega) (by omega)) c⟩
  | succ m ih =>
    intro i x hi hF l4 l5
    refine am_run hX 5 _ _ _ _ ?_
    conv => whnf
    rw [h3]
    refine ⟨fun c => absurd c (nI_ge (by omega) (by omega)), fun _ => ?_⟩
    refine am_run hX 49 _ _ _ _ ?_
    conv => whnf
    rw [e3]
    refine ⟨vp_in_nI (by show _ < 1024; omega) (by decide), ?_⟩
    conv => whnf
    rw [e2]
    refine ⟨vp_in_nI (by show _ < 1024; omega) (by decide), ?_⟩
    conv => whnf
    rw [e3]
    refine ⟨vp_in_nI (by show _ < 1024; omega) (by decide), ?_⟩
    conv => whnf
    rw [e1]
    refine ⟨vp_in_nI (by show _ < 1024; omega) (by decide), ?_⟩
    conv => whnf
    rw [e2]
    refine ⟨vp_in_nI (by show _ < 1024; omega) (by decide), ?_⟩
    conv => whnf
    refine ⟨vp_in_nI (by show _ < 1024; omega) (by decide), ?_⟩
    conv => whnf
    rw [e1]
    refine ⟨vp_in_nI (by show _ < 1024; omega) (by decide), ?_⟩
    conv => whnf
    refine ⟨vp_in_nI (by show _ < 1024; omega) (by decide), ?_⟩
    conv => whnf
    rw [nI_clamp (n := 4 * k) (by omega), nI_clamp (n := 4 * k + 1) (by omega), nI_clamp (n := 4 * k + 2) (by omega), nI_clamp (n := 4 * k + 3) (by omega), nI_1]
    simp only [mm_l2, mm_ll, cq_at hk (show 3 < 4 by decide), cq_at hk (show 2 < 4 by decide), cq_at hk (show 1 < 4 by decide), cq_at0 hk, cq_u _ hk (show 3 < 4 by decide), cq_u _ hk (show 2 < 4 by decide), cq_u _ hk (show 1 < 4 by decide), cq_u0 _ hk, lI_neg, stp_x, stx_at]
    exact ih (i + 1) (t8 x) (by omega) (by rw [← hF, t8n_a x m 1]; rfl) _ _
set_option maxRecDepth 100000 in
theorem rn_b20 {P : am_Q} {X : am_X} {N k e p : Nat} {xs : Nat → R4} {x : R4} (hX : am_K d false nm_X6_rotateOne P X) (hN : N ≤ 256) (hk : k < N) (hp : p < 4) (hK : ∀ l4 l5, X 87 [some (aR 18), some (aI (nI (4 * k))), some (aI (nI e)), some (aI (nI (p + 1))), l4, l5] [] (mm_l M 20 (cq g N (stx xs k (sp x p (- pp x p)))))) (l4 l5 : Option am_V) : X 87 [some (aR 18), some (aI (nI (4 * k))), some (aI (nI e)), some (aI (nI p)), l4, l5] [] (mm_l M 20 (cq g N (stx xs k x))) := by
  refine am_run hX 3 _ _ _ _ ?_
  conv => whnf
  refine ⟨fun c => absurd c (nI_ge (a := p) (b := 4) hp (by decide)), fun _ => ?_⟩
  refine am_run hX 15 _ _ _ _ ?_
  conv => whnf
  rw [nI_add]
  refine ⟨vp_in_nI (by show _ < 1024; omega) (by decide), ?_⟩
  conv => whnf
  refine ⟨vp_in_nI (by show _ < 1024; omega) (by decide), ?_⟩
  conv => whnf
  rw [nI_clamp (n := 4 * k + p) (by omega), nI_1]
  simp only [mm_l2, mm_ll, cq_at hk hp, cq_u _ hk hp, lI_neg, stp_x, stx_at]
  exact hK _ _
set_option maxRecDepth 100000 in
theorem ct_rot120 {N k e : Nat} {xs : Nat → R4} (hN : N ≤ 256) (hk : k < N) (he : e < 8) : am_M (d + 1) false nm_X6_rotateOne [aR 18, aI (nI (4 * k)), aI (nI e)] (mm_l M 20 (cq g N xs)) (am_q0 (mm_l M 20 (cq g N (stx xs k (t8n e (xs k)))))) := by
  refine ⟨rfl, rfl, rfl, fun X hX => am_run hX 2 _ _ _ _ ?_⟩
  conv => whnf
  have key := ro_l20 (M := M) (g := g) (xs := xs) (F := t8n (e % 4) (xs k)) hX hN hk he ?_ (e % 4) 0 (xs k) (by omega) rfl
  · rw [stx_z] at key
    exact key _ _
  · intro l4 l5
    refine am_run hX 3 _ _ _ _ ?_
    conv => whnf
    by_cases h4 : e < 4
    · refine ⟨fun _ => ?_, fun c => absurd (nI_lt (a := e) (b := 4) h4 (by decide)) c⟩
      refine am_run hX 2 _ _ _ _ ?_
      conv => whnf
      rw [Nat.mod_eq_of_lt h4]
      exact ⟨trivial, rfl, rfl⟩
    · refine ⟨fun c => absurd c (nI_nlt (a := e) (b := 4) (by omega) (by omega)), fun _ => ?_⟩
      refine am_run hX 2 _ _ _ _ ?_
      conv => whnf
      refine rn_b20 (p := 0) hX hN hk (by decide) (rn_b20 (p := 1) hX hN hk (by decide) (rn_b20 (p := 2) hX hN hk (by decide) (rn_b20 (p := 3) hX hN hk (by decide) ?_))) _ _
      intro l4 l5
      refine am_run hX 10 _ _ _ _ ?_
      conv => whnf
      refine ⟨fun _ => ?_, fun c => absurd (by decide) c⟩
      conv => whnf
      refine ⟨trivial, rfl, ?_⟩
      rw [show t8n e (xs k) = ng (t8n (e % 4) (xs k)) from by
        conv => lhs; rw [show e = 4 + e % 4 by omega, t8n_a]
        rfl]
      rfl
set_option maxRecDepth 100000 in
theorem rt_l20 {P : am_Q} {X : am_X} {N e : Nat} {mk v : Int32} {xs : Nat → R4} (hX : am_K (d + 1) false nm_X6_rotate P X) (hN : N ≤ 256) (hs : M.1 18 2 = nI N) (he : e < 8) (hP : P (.inl none) (mm_l M 20 (cq g N (rotm (fun i => nI i &&& mk = v) (t8n e) xs N)))) : ∀ (m i : Nat), i + m = N → X 3 [some (aR 18), some (aI mk), some (aI v), some (aI (nI e)), some (aI (nI i))] [] (mm_l M 20 (cq g N (rotm (fun i => nI i &&& mk = v) (t8n e) xs i))) := by
  intro m
  induction m with
  | zero =>
    intro i hi
    have hi : i = N := by omega
    subst hi
    refine am_run hX 10 _ _ _ _ ?_
    conv => whnf
    rw [show (mm_l M 20 (cq g i (rotm (fun i => nI i &&& mk = v) (t8n e) xs i))).1 18 2 = nI i from hs]
    refine ⟨fun _ => ?_, fun c => absurd (nI_le (by omega) (by omega)) c⟩
    conv => whnf
    exact ⟨trivial, hP⟩
  | succ m ih =>
    intro i hi
    have ih := ih (i + 1) (by omega)
    refine am_run hX 4 _ _ _ _ ?_
    conv => whnf
    rw [show (mm_l M 20 (cq g N (rotm (fun i => nI i &&& mk = v) (t8n e) xs i))).1 18 2 = nI N from hs]
    refine ⟨fun c => absurd c (nI_ge (by omega) (by omega)), fun _ => ?_⟩
    refine am_run hX 5 _ _ _ _ ?_
    conv => whnf
    refine ⟨fun q => ?_, fun q => ?_⟩
    · refine am_run hX 2 _ _ _ _ ?_
      conv => whnf
      rw [nI_1]
      rw [← rot_n (S := fun i => nI i &&& mk = v) q] at ih
      exact ih
    · have q : nI i &&& mk = v := Decidable.byContradiction q
      refine am_run hX 8 _ _ _ _ ?_
      conv => whnf
      rw [show (4 : Int32) = nI 4 from rfl, nI_mul]
      refine am_c0 (ct_rot120 (d := d) hN (by omega) he) ?_
      rw [rot_at, rot_s (S := fun i => nI i &&& mk = v) q]
      conv => whnf
      rw [nI_1]
      exact ih
set_option maxRecDepth 100000 in
theorem ct_rot20 {N e : Nat} {mk v : Int32} {xs : Nat → R4} (hN : N ≤ 256) (hs : M.1 18 2 = nI N) (he : e < 8) : am_M (d + 2) false nm_X6_rotate [aR 18, aI mk, aI v, aI (nI e)] (mm_l M 20 (cq g N xs)) (am_q0 (mm_l M 20 (cq g N (rotm (fun i => nI i &&& mk = v) (t8n e) xs N)))) := by
  refine ⟨rfl, rfl, rfl, fun X hX => am_run hX 2 _ _ _ _ ?_⟩
  conv => whnf
  have key := rt_l20 (d := d) (M := M) (g := g) (xs := xs) (mk := mk) (v := v) hX hN hs he ⟨rfl, rfl⟩ N 0 (by omega)
  rw [rot_0] at key
  exact key
set_option maxRecDepth 100000 in
theorem sw_b107 {P : am_Q} {X : am_X} {N i j p : Nat} {xs : Nat → R4} (hX : am_K d false nm_X6_swap P X) (hN : N ≤ 64) (hi : i < N) (hj : j < N) (hp : p < 4) (hK : ∀ l4 l5, X 2 [some (aR 105), some (aI (nI (4 * i))), some (aI (nI (4 * j))), some (aI (nI (p + 1))), l4, l5] [] (mm_l M 107 (cq g N (sw1p xs i j p)))) (l4 l5 : Option am_V) : X 2 [some (aR 105), some (aI (nI (4 * i))), some (aI (nI (4 * j))), some (aI (nI p)), l4, l5] [] (mm_l M 107 (cq g N xs)) := by
  refine am_run hX 3 _ _ _ _ ?_
  conv => whnf
  refine ⟨fun c => absurd c (nI_ge (a := p) (b := 4) hp (by decide)), fun _ => ?_⟩
  refine am_run hX 28 _ _ _ _ ?_
  conv => whnf
  rw [nI_add]
  refine ⟨vp_in_nI (by show _ < 256; omega) (by decide), ?_⟩
  conv => whnf
  rw [nI_add]
  refine ⟨vp_in_nI (by show _ < 256; omega) (by decide), ?_⟩
  conv => whnf
  rw [nI_add]
  refine ⟨vp_in_nI (by show _ < 256; omega) (by decide), ?_⟩
  conv => whnf
  rw [nI_add]
  refine ⟨vp_in_nI (by show _ < 256; omega) (by decide), ?_⟩
  conv => whnf
  rw [nI_clamp (n := 4 * i + p) (by omega), nI_clamp (n := 4 * j + p) (by omega), nI_1]
  simp only [mm_l2, mm_ll, cq_at hi hp, cq_at hj hp, cq_u _ hi hp, cq_u _ hj hp]
  exact hK _ _
set_option maxRecDepth 100000 in
theorem ct_swap107 {N i j : Nat} {xs : Nat → R4} (hN : N ≤ 64) (hi : i < N) (hj : j < N) (hij : i ≠ j) : am_M (d + 1) false nm_X6_swap [aR 105, aI (nI (4 * i)), aI (nI (4 * j))] (mm_l M 107 (cq g N xs)) (am_q0 (mm_l M 107 (cq g N (swp xs i j)))) := by
  refine ⟨rfl, rfl, rfl, fun X hX => am_run hX 2 _ _ _ _ ?_⟩
  conv => whnf
  refine sw_b107 (p := 0) hX hN hi hj (by decide) (sw_b107 (p := 1) hX hN hi hj (by decide) (sw_b107 (p := 2) hX hN hi hj (by decide) (sw_b107 (p := 3) hX hN hi hj (by decide) ?_))) _ _
  intro l4 l5
  rw [sw_4 xs hij]
  refine am_run hX 10 _ _ _ _ ?_
  conv => whnf
  refine ⟨fun _ => ?_, fun c => absurd (by decide) c⟩
  conv => whnf
  exact ⟨trivial, rfl, rfl⟩
set_option maxRecDepth 100000 in
theorem ex_l107 {P : am_Q} {X : am_X} {N c : Nat} {mk v : Int32} {xs : Nat → R4} (hX : am_K (d + 1) false nm_X6_exchange P X) (hN : N ≤ 64) (hs : M.1 105 2 = nI N) (hc : ∀ i, i < N → nI i &&& mk = v → i ^^^ c < N ∧ ¬ nI (i ^^^ c) &&& mk = v) (hP : P (.inl none) (mm_l M 107 (cq g N (exm (fun i => nI i &&& mk = v) c xs N)))) : ∀ (m i : Nat), i + m = N → X 3 [some (aR 105), some (aI mk), some (aI v), some (aI (nI c)), some (aI (nI i))] [] (mm_l M 107 (cq g N (exm (fun i => nI i &&& mk = v) c xs i))) := by
  intro m
  induction m with
  | zero =>
    intro i hi
    have hi : i = N := by omega
    subst hi
    refine am_run hX 10 _ _ _ _ ?_
    conv => whnf
    rw [show (mm_l M 107 (cq g i (exm (fun i => nI i &&& mk = v) c xs i))).1 105 2 = nI i from hs]
    refine ⟨fun _ => ?_, fun c => absurd (nI_le (by omega) (by omega)) c⟩
    conv => whnf
    exact ⟨trivial, hP⟩
  | succ m ih =>
    intro i hi
    have ih := ih (i + 1) (by omega)
    refine am_run hX 4 _ _ _ _ ?_
    conv => whnf
    rw [show (mm_l M 107 (cq g N (exm (fun i => nI i &&& mk = v) c xs i))).1 105 2 = nI N from hs]
    refine ⟨fun c => absurd c (nI_ge (by omega) (by omega)), fun _ => ?_⟩
    refine am_run hX 5 _ _ _ _ ?_
    conv => whnf
    refine ⟨fun q => ?_, fun q => ?_⟩
    · refine am_run hX 2 _ _ _ _ ?_
      conv => whnf
      rw [nI_1]
      rw [← exm_n (S := fun i => nI i &&& mk = v) q] at ih
      exact ih
    · have q : nI i &&& mk = v := Decidable.byContradiction q
      obtain ⟨h1, h2⟩ := hc i (by omega) q
      refine am_run hX 12 _ _ _ _ ?_
      conv => whnf
      rw [nI_xor, show (4 : Int32) = nI 4 from rfl, nI_mul, nI_mul]
      refine am_c0 (ct_swap107 (d := d) hN (by omega) h1 (fun e => h2 (by rw [← e]; exact q))) ?_
      rw [exm_s (S := fun i => nI i &&& mk = v) q h2]
      conv => whnf
      rw [nI_1]
      exact ih
set_option maxRecDepth 100000 in
theorem ct_exch107 {N c : Nat} {mk v : Int32} {xs : Nat → R4} (hN : N ≤ 64) (hs : M.1 105 2 = nI N) (hc : ∀ i, i < N → nI i &&& mk = v → i ^^^ c < N ∧ ¬ nI (i ^^^ c) &&& mk = v) : am_M (d + 2) false nm_X6_exchange [aR 105, aI mk, aI v, aI (nI c)] (mm_l M 107 (cq g N xs)) (am_q0 (mm_l M 107 (cq g N (exm (fun i => nI i &&& mk = v) c xs N)))) := by
  refine ⟨rfl, rfl, rfl, fun X hX => am_run hX 2 _ _ _ _ ?_⟩
  conv => whnf
  have key := ex_l107 (d := d) (M := M) (g := g) (xs := xs) hX hN hs hc ⟨rfl, rfl⟩ N 0 (by omega)
  rw [exm_0] at key
  exact key

set_option maxRecDepth 100000 in
theorem ro_l107 {P : am_Q} {X : am_X} {N k e : Nat} {xs : Nat → R4} {F : R4} (hX : am_K d false nm_X6_rotateOne P X) (hN : N ≤ 64) (hk : k < N) (he : e < 8) (hK : ∀ l4 l5, X 80 [some (aR 105), some (aI (nI (4 * k))), some (aI (nI e)), some (aI (nI (e % 4))), l4, l5] [] (mm_l M 107 (cq g N (stx xs k F)))) : ∀ (m i : Nat) (x : R4), i + m = e % 4 → t8n m x = F → ∀ l4 l5, X 2 [some (aR 105), some (aI (nI (4 * k))), some (aI (nI e)), some (aI (nI i)), l4, l5] [] (mm_l M 107 (cq g N (stx xs k x))) := by
  have h3 : nI e &&& 3 = nI (e % 4) := a3 e (by omega)
  have e1 : nI (4 * k) + 1 = nI (4 * k + 1) := nI_1 _
  have e2 : nI (4 * k) + 2 = nI (4 * k + 2) := by rw [show (2 : Int32) = nI 2 from rfl, nI_add]
  have e3 : nI (4 * k) + 3 = nI (4 * k + 3) := by rw [show (3 : Int32) = nI 3 from rfl, nI_add]
  intro m
  induction m with
  | zero =>
    intro i x hi hF l4 l5
    have hi : i = e % 4 := by omega
    subst hi
    subst hF
    refine am_run hX 5 _ _ _ _ ?_
    conv => whnf
    rw [h3]
    exact ⟨fun _ => hK _ _, fun c => absurd (nI_le (by omega) (by omega)) c⟩
  | succ m ih =>
    intro i x hi hF l4 l5
    refine am_run hX 5 _ _ _ _ ?_
    conv => whnf
    rw [h3]
    refine ⟨fun c => absurd c (nI_ge (by omega) (by omega)), fun _ => ?_⟩
    refine am_run hX 49 _ _ _ _ ?_
    conv => whnf
    rw [e3]
    refine ⟨vp_in_nI (by show _ < 256; omega) (by decide), ?_⟩
    conv => whnf
    rw [e2]
    refine ⟨vp_in_nI (by show _ < 256; omega) (by decide), ?_⟩
    conv => whnf
    rw [e3]
    refine ⟨vp_in_nI (by show _ < 256; omega) (by decide), ?_⟩
    conv => whnf
    rw [e1]
    refine ⟨vp_in_nI (by show _ < 256; omega) (by decide), ?_⟩
    conv => whnf
    rw [e2]
    refine ⟨vp_in_nI (by show _ < 256; omega) (by decide), ?_⟩
    conv => whnf
    refine ⟨vp_in_nI (by show _ < 256; omega) (by decide), ?_⟩
    conv => whnf
    rw [e1]
    refine ⟨vp_in_nI (by show _ < 256; omega) (by decide), ?_⟩
    conv => whnf
    refine ⟨vp_in_nI (by show _ < 256; omega) (by decide), ?_⟩
    conv => whnf
    rw [nI_clamp (n := 4 * k) (by omega), nI_clamp (n := 4 * k + 1) (by omega), nI_clamp (n := 4 * k + 2) (by omega), nI_clamp (n := 4 * k + 3) (by omega), nI_1]
    simp only [mm_l2, mm_ll, cq_at hk (show 3 < 4 by decide), cq_at hk (show 2 < 4 by decide), cq_at hk (show 1 < 4 by decide), cq_at0 hk, cq_u _ hk (show 3 < 4 by decide), cq_u _ hk (show 2 < 4 by decide), cq_u _ hk (show 1 < 4 by decide), cq_u0 _ hk, lI_neg, stp_x, stx_at]
    exact ih (i + 1) (t8 x) (by omega) (by rw [← hF, t8n_a x m 1]; rfl) _ _
set_option maxRecDepth 100000 in
theorem rn_b107 {P : am_Q} {X : am_X} {N k e p : Nat} {xs : Nat → R4} {x : R4} (hX : am_K d false nm_X6_rotateOne P X) (hN : N ≤ 64) (hk : k < N) (hp : p < 4) (hK : ∀ l4 l5, X 87 [some (aR 105), some (aI (nI (4 * k))), some (aI (nI e)), some (aI (nI (p + 1))), l4, l5] [] (mm_l M 107 (cq g N (stx xs k (sp x p (- pp x p)))))) (l4 l5 : Option am_V) : X 87 [some (aR 105), some (aI (nI (4 * k))), some (aI (nI e)), some (aI (nI p)), l4, l5] [] (mm_l M 107 (cq g N (stx xs k x))) := by
  refine am_run hX 3 _ _ _ _ ?_
  conv => whnf
  refine ⟨fun c => absurd c (nI_ge (a := p) (b := 4) hp (by decide)), fun _ => ?_⟩
  refine am_run hX 15 _ _ _ _ ?_
  conv => whnf
  rw [nI_add]
  refine ⟨vp_in_nI (by show _ < 256; omega) (by decide), ?_⟩
  conv => whnf
  refine ⟨vp_in_nI (by show _ < 256; omega) (by decide), ?_⟩
  conv => whnf
  rw [nI_clamp (n := 4 * k + p) (by omega), nI_1]
  simp only [mm_l2, mm_ll, cq_at hk hp, cq_u _ hk hp, lI_neg, stp_x, stx_at]
  exact hK _ _
set_option maxRecDepth 100000 in
theorem ct_rot1107 {N k e : Nat} {xs : Nat → R4} (hN : N ≤ 64) (hk : k < N) (he : e < 8) : am_M (d + 1) false nm_X6_rotateOne [aR 105, aI (nI (4 * k)), aI (nI e)] (mm_l M 107 (cq g N xs)) (am_q0 (mm_l M 107 (cq g N (stx xs k (t8n e (xs k)))))) := by
  refine ⟨rfl, rfl, rfl, fun X hX => am_run hX 2 _ _ _ _ ?_⟩
  conv => whnf
  have key := ro_l107 (M := M) (g := g) (xs := xs) (F := t8n (e % 4) (xs k)) hX hN hk he ?_ (e % 4) 0 (xs k) (by omega) rfl
  · rw [stx_z] at key
    exact key _ _
  · intro l4 l5
    refine am_run hX 3 _ _ _ _ ?_
    conv => whnf
    by_cases h4 : e < 4
    · refine ⟨fun _ => ?_, fun c => absurd (nI_lt (a := e) (b := 4) h4 (by decide)) c⟩
      refine am_run hX 2 _ _ _ _ ?_
      conv => whnf
      rw [Nat.mod_eq_of_lt h4]
      exact ⟨trivial, rfl, rfl⟩
    · refine ⟨fun c => absurd c (nI_nlt (a := e) (b := 4) (by omega) (by omega)), fun _ => ?_⟩
      refine am_run hX 2 _ _ _ _ ?_
      conv => whnf
      refine rn_b107 (p := 0) hX hN hk (by decide) (rn_b107 (p := 1) hX hN hk (by decide) (rn_b107 (p := 2) hX hN hk (by decide) (rn_b107 (p := 3) hX hN hk (by decide) ?_))) _ _
      intro l4 l5
      refine am_run hX 10 _ _ _ _ ?_
      conv => whnf
      refine ⟨fun _ => ?_, fun c => absurd (by decide) c⟩
      conv => whnf
      refine ⟨trivial, rfl, ?_⟩
      rw [show t8n e (xs k) = ng (t8n (e % 4) (xs k)) from by
        conv => lhs; rw [show e = 4 + e % 4 by omega, t8n_a]
        rfl]
      rfl
set_option maxRecDepth 100000 in
theorem rt_l107 {P : am_Q} {X : am_X} {N e : Nat} {mk v : Int32} {xs : Nat → R4} (hX : am_K (d + 1) false nm_X6_rotate P X) (hN : N ≤ 64) (hs : M.1 105 2 = nI N) (he : e < 8) (hP : P (.inl none) (mm_l M 107 (cq g N (rotm (fun i => nI i &&& mk = v) (t8n e) xs N)))) : ∀ (m i : Nat), i + m = N → X 3 [some (aR 105), some (aI mk), some (aI v), some (aI (nI e)), some (aI (nI i))] [] (mm_l M 107 (cq g N (rotm (fun i => nI i &&& mk = v) (t8n e) xs i))) := by
  intro m
  induction m with
  | zero =>
    intro i hi
    have hi : i = N := by omega
    subst hi
    refine am_run hX 10 _ _ _ _ ?_
    conv => whnf
    rw [show (mm_l M 107 (cq g i (rotm (fun i => nI i &&& mk = v) (t8n e) xs i))).1 105 2 = nI i from hs]
    refine ⟨fun _ => ?_, fun c => absurd (nI_le (by omega) (by omega)) c⟩
    conv => whnf
    exact ⟨trivial, hP⟩
  | succ m ih =>
    intro i hi
    have ih := ih (i + 1) (by omega)
    refine am_run hX 4 _ _ _ _ ?_
    conv => whnf
    rw [show (mm_l M 107 (cq g N (rotm (fun i => nI i &&& mk = v) (t8n e) xs i))).1 105 2 = nI N from hs]
    refine ⟨fun c => absurd c (nI_ge (by omega) (by omega)), fun _ => ?_⟩
    refine am_run hX 5 _ _ _ _ ?_
    conv => whnf
    refine ⟨fun q => ?_, fun q => ?_⟩
    · refine am_run hX 2 _ _ _ _ ?_
      conv => whnf
      rw [nI_1]
      rw [← rot_n (S := fun i => nI i &&& mk = v) q] at ih
      exact ih
    · have q : nI i &&& mk = v := Decidable.byContradiction q
      refine am_run hX 8 _ _ _ _ ?_
      conv => whnf
      rw [show (4 : Int32) = nI 4 from rfl, nI_mul]
      refine am_c0 (ct_rot1107 (d := d) hN (by omega) he) ?_
      rw [rot_at, rot_s (S := fun i => nI i &&& mk = v) q]
      conv => whnf
      rw [nI_1]
      exact ih
set_option maxRecDepth 100000 in
theorem ct_rot107 {N e : Nat} {mk v : Int32} {xs : Nat → R4} (hN : N ≤ 64) (hs : M.1 105 2 = nI N) (he : e < 8) : am_M (d + 2) false nm_X6_rotate [aR 105, aI mk, aI v, aI (nI e)] (mm_l M 107 (cq g N xs)) (am_q0 (mm_l M 107 (cq g N (rotm (fun i => nI i &&& mk = v) (t8n e) xs N)))) := by
  refine ⟨rfl, rfl, rfl, fun X hX => am_run hX 2 _ _ _ _ ?_⟩
  conv => whnf
  have key := rt_l107 (d := d) (M := M) (g := g) (xs := xs) (mk := mk) (v := v) hX hN hs he ⟨rfl, rfl⟩ N 0 (by omega)
  rw [rot_0] at key
  exact key
end CAP
