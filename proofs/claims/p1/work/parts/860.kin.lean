/-! KIN: the class finds them all -/
section KNF
variable {d : Nat} {M : mm_M} {n g0 : Nat}
theorem cn_0 : ∀ k, cn (fun _ => false) k = 0
  | 0 => rfl
  | k + 1 => by simp [cn, cn_0 k]
set_option maxRecDepth 100000 in
theorem fk_p {P : am_Q} {X : am_X} {c0 : Nat} (hX : am_K (d + 3) false nm_X7_findKin P X) (hn1 : 1 ≤ n) (hn : n ≤ 6) (hK : ∀ f h k, KS n g0 f h (fun _ => False) → cn (sb f) 32768 = c0 + k → (k = 0 → ∀ x, x < 32768 → sb h x = false) → ∀ l5, X 86 [some (aR 70), some (aI (nI n)), some (aI (nI g0)), some (aI (nI c0)), some (aI (nI k)), l5] [] (mm_l (mm_l M 79 f) 80 h)) : ∀ (m i : Nat), i + m = 512 → ∀ f h k, KS n g0 f h (fun _ => False) → cn (sb f) 32768 = c0 + k → (k = 0 → ∀ x, x < 32768 → sb h x = true → i ≤ x / 64) → X 44 [some (aR 70), some (aI (nI n)), some (aI (nI g0)), some (aI (nI c0)), some (aI (nI k)), some (aI (nI i))] [] (mm_l (mm_l M 79 f) 80 h) := by
  intro m
  induction m with
  | zero =>
    intro i hi f h k k1 k2 k3
    have hi : i = 512 := by omega
    subst hi
    refine am_run hX 3 _ _ _ _ ?_
    conv => whnf
    refine ⟨fun _ => hK f h k k1 k2 (fun e x hx => ?_) _, fun c => absurd (by decide) c⟩
    cases hs : sb h x with
    | false => rfl
    | true => have := k3 e x hx hs; omega
  | succ m ih =>
    intro i hi f h k k1 k2 k3
    have hcl := cn_le (sb f) 32768
    refine am_run hX 3 _ _ _ _ ?_
    conv => whnf
    refine ⟨fun c => absurd c (nI_ge (a := i) (b := 512) (by omega) (by decide)), fun _ => ?_⟩
    refine am_run hX 8 _ _ _ _ ?_
    conv => whnf
    refine ⟨vp_in_nI (by show _ < 512; omega) (by decide), ?_⟩
    conv => whnf
    rw [nI_clamp (n := i) (by omega), mm_l2, lg_0]
    refine ⟨fun hz => ?_, fun hz => ?_⟩
    · refine am_run hX 5 _ _ _ _ ?_
      conv => whnf
      rw [nI_1, show (0 : Int32) = nI 0 from rfl, nI_add, Nat.add_zero]
      refine ih (i + 1) (by omega) f h k k1 k2 (fun e x hx hs => ?_)
      have h1 := k3 e x hx hs
      by_cases e2 : x / 64 = i
      · unfold sb at hs
        rw [e2, hz] at hs
        simp at hs
      · omega
    · refine am_run hX 9 _ _ _ _ ?_
      conv => whnf
      refine am_cq (ct_spread (d := d) (M := M) (n := n) (g0 := g0) (w := i) hn1 hn (by omega) k1) ?_
      rintro r M' ⟨f', h', k', rfl, rfl, q1, q2, q3⟩
      refine ⟨_, rfl, ?_⟩
      conv => whnf
      rw [nI_1, nI_add]
      refine ih (i + 1) (by omega) f' h' (k + k') q1 (by omega) (fun e x hx hs => ?_)
      rw [q3 (by omega) x hx] at hs
      have hs := (Bool.and_eq_true _ _).mp hs
      have h1 := k3 (by omega) x hx hs.1
      have h2 : ¬ x / 64 = i := by simpa using hs.2
      omega
set_option maxRecDepth 100000 in
theorem fk_e {P : am_Q} {X : am_X} {f h : Nat → Int64} {c : Int32} (hX : am_K (d + 3) false nm_X7_findKin P X) (hP : P (.inl (some (aI c))) (mm_l (mm_l M 79 f) 80 h)) (l5 : Option am_V) : X 27 [some (aR 70), some (aI (nI n)), some (aI (nI g0)), some (aI c), some (aI (nI 0)), l5] [] (mm_l (mm_l M 79 f) 80 h) := by
  refine am_run hX 4 _ _ _ _ ?_
  conv => whnf
  refine ⟨fun _ => ?_, fun c => absurd (by decide) c⟩
  conv => whnf
  exact ⟨trivial, hP⟩
set_option maxRecDepth 100000 in
theorem fk_o {P : am_Q} {X : am_X} (hX : am_K (d + 3) false nm_X7_findKin P X) (hn1 : 1 ≤ n) (hn : n ≤ 6) (hP : ∀ f h, KS n g0 f h (fun _ => False) → (∀ x, x < 32768 → sb h x = false) → P (.inl (some (aI (nI (cn (sb f) 32768))))) (mm_l (mm_l M 79 f) 80 h)) : ∀ (m : Nat) f h k, 0 < k → k ≤ 32768 → KS n g0 f h (fun _ => False) → cn (sb f) 32768 + m = 32768 → ∀ l5, X 27 [some (aR 70), some (aI (nI n)), some (aI (nI g0)), some (aI (nI (cn (sb f) 32768))), some (aI (nI k)), l5] [] (mm_l (mm_l M 79 f) 80 h) := by
  intro m
  induction m using Nat.strongRecOn with
  | _ m ih =>
    intro f h k k0 kb k1 k2 l5
    refine am_run hX 2 _ _ _ _ ?_
    conv => whnf
    refine ⟨fun c => absurd c (nI_nle k0 (by omega)), fun _ => ?_⟩
    refine am_run hX 3 _ _ _ _ ?_
    conv => whnf
    refine ⟨fun c => absurd c (nI_nlt (a := 32768) (b := cn (sb f) 32768) (by omega) (by decide)), fun _ => ?_⟩
    refine am_run hX 4 _ _ _ _ ?_
    conv => whnf
    refine fk_p (c0 := cn (sb f) 32768) hX hn1 hn (fun f' h' k' q1 q2 q3 l5 => ?_) 512 0 (by omega) f h 0 k1 (by omega) (fun _ x _ _ => Nat.zero_le _)
    refine am_run hX 5 _ _ _ _ ?_
    conv => whnf
    rw [nI_add, ← q2]
    have hcl := cn_le (sb f') 32768
    by_cases e : k' = 0
    · subst e
      exact fk_e hX (hP f' h' q1 (q3 rfl)) _
    · exact ih (32768 - cn (sb f') 32768) (by omega) f' h' k' (by omega) (by omega) q1 (by omega) _
/-- what is seen in the end is what can be reached -/
theorem KS_end {f h : Nat → Int64} (hn : n ≤ 6) (hg : g0 < 2 ^ (n * (n - 1) / 2)) (hk : KS n g0 f h (fun _ => False)) (he : ∀ x, x < 32768 → sb h x = false) (x : Nat) (hx : x < 32768) : sb f x = true ↔ RC n g0 x := by
  obtain ⟨k1, k2, k3, k4, k5⟩ := hk
  have hm := m15 hn
  constructor
  · intro q; exact (k2 x hx q).2
  · intro q
    refine (RC_c (F := fun y => y < 32768 ∧ sb f y = true) (fun y hy p hp => ?_) ⟨by omega, k1⟩ q).2
    have hl := cp_lt hn p (k2 y hy.1 hy.2).1
    rcases k5 y hy.1 hy.2 with q | q | q
    · exact q.elim
    · rw [he y hy.1] at q; cases q
    · exact ⟨by omega, q p hp⟩
set_option maxRecDepth 100000 in
theorem ct_find (hn1 : 1 ≤ n) (hn : n ≤ 6) (hg : g0 < 2 ^ (n * (n - 1) / 2)) : am_M (d + 4) false nm_X7_findKin [aR 70, aI (nI n), aI (nI g0)] M (fun r M' => ∃ f h, M' = mm_l (mm_l M 79 f) 80 h ∧ r = .inl (some (aI (nI (cn (sb f) 32768)))) ∧ ∀ x, x < 32768 → (sb f x = true ↔ RC n g0 x)) := by
  have hm := m15 hn
  refine ⟨rfl, rfl, rfl, fun X hX => am_run hX 16 _ _ _ _ ?_⟩
  conv => whnf
  refine am_c0 (ct_fill79 (d := d + 2)) ?_
  conv => whnf
  refine am_c0 (ct_fill80 (d := d + 2)) ?_
  conv => whnf
  refine am_cq (ct_see (d := d + 2) (g := g0) (by omega)) ?_
  rintro r M' ⟨f, h, rfl, q1, q2, rfl⟩
  refine ⟨_, rfl, ?_⟩
  conv => whnf
  have eM : mm_l (mm_l (mm_l (mm_l M 79 fun j => if j < 512 then 0 else M.2 79 j) 80 fun j => if j < 512 then 0 else (mm_l M 79 fun j => if j < 512 then 0 else M.2 79 j).2 80 j) 79 f) 80 h = mm_l (mm_l M 79 f) 80 h := by
    unfold mm_l
    refine Prod.ext rfl (funext fun q => ?_)
    by_cases h1 : q = 80
    · simp [h1]
    · by_cases h2 : q = 79
      · simp [h2]
      · simp [h1, h2]
  rw [eM]
  have z79 : ∀ x, x < 32768 → sb ((mm_l (mm_l M 79 fun j => if j < 512 then 0 else M.2 79 j) 80 fun j => if j < 512 then 0 else (mm_l M 79 fun j => if j < 512 then 0 else M.2 79 j).2 80 j).2 79) x = false := fun x hx => by
    rw [mm_lne _ _ _ _ (by decide), mm_l2]
    unfold sb
    dsimp only
    rw [if_pos (by omega)]
    simp
  have z80 : ∀ x, x < 32768 → sb ((mm_l (mm_l M 79 fun j => if j < 512 then 0 else M.2 79 j) 80 fun j => if j < 512 then 0 else (mm_l M 79 fun j => if j < 512 then 0 else M.2 79 j).2 80 j).2 80) x = false := fun x hx => by
    rw [mm_l2]
    unfold sb
    dsimp only
    rw [if_pos (by omega)]
    simp
  have f1 : ∀ x, x < 32768 → sb f x = (x == g0) := fun x hx => by rw [q1, z79 x hx, Bool.false_or]
  have h1 : ∀ x, x < 32768 → sb h x = (x == g0) := fun x hx => by rw [q2, z80 x hx, z79 g0 (by omega)]; simp
  have hks : KS n g0 f h (fun _ => False) := by
    refine ⟨by rw [f1 g0 (by omega)]; simp, fun x hx q => ?_, fun x hx q => ?_, fun x _ q => q.elim, fun x hx q => ?_⟩
    · rw [f1 x hx] at q
      rw [eq_of_beq q]
      exact ⟨hg, RC_0 n g0⟩
    · rw [f1 x hx, ← h1 x hx]; exact q
    · right; left
      rw [h1 x hx, ← f1 x hx]; exact q
  have hcn : cn (sb f) 32768 = 1 := by
    have := cn_s (F := fun _ => false) (F' := fun x => x == g0) (g := g0) (fun x => by simp) rfl 32768
    rw [cn_0, if_pos (by omega)] at this
    rw [cn_c 32768 f1]
    exact this
  have key := fk_o (M := M) (g0 := g0) hX hn1 hn (fun f h k1 k2 => ⟨f, h, rfl, rfl, KS_end hn hg k1 k2⟩) 32767 f h 1 (by decide) (by decide) hks (by omega) none
  rw [hcn] at key
  exact key
end KNF
