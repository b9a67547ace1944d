/-! THE CLASS'S settle -/
def hqf (n : Nat) (f : Nat → Int64) : Nat → Int64 := fun j => if j < n then f j >>> 1 else f j
/-- halved as often as may be -/
def stl (n : Nat) : Nat → (Nat → Int64) → (Nat → Int64) → Nat × (Nat → Int64) × (Nat → Int64)
  | 0, f, g => (0, f, g)
  | k + 1, f, g => if allN (fun j => e1J (f j) (g j)) n = true then stl n k (hqf n f) (hqf n g) else (k + 1, f, g)
theorem nI_d1 (k : Nat) : nI (k + 1) + (-1) = nI k := by
  rw [← nI_1, Int32.add_assoc]
  exact Int32.add_zero _
section STL
variable {d n : Nat} {M : mm_M} {q : Nat → Int32}
theorem hqf_s {f : Nat → Int64} {i : Nat} : vp_updL (hqf i f) i (hqf i f i >>> 1) = hqf (i + 1) f := by
  funext j
  unfold vp_updL hqf
  by_cases e : j = i
  · rw [if_pos e, if_neg (by omega), if_pos (by omega), e]
  · rw [if_neg e]
    by_cases h : j < i
    · rw [if_pos h, if_pos (by omega)]
    · rw [if_neg h, if_neg (by omega)]
theorem hqf_0 {f : Nat → Int64} : hqf 0 f = f := by
  funext j
  unfold hqf
  rw [if_neg (by omega)]
set_option maxRecDepth 100000 in
theorem sh_l {P : am_Q} {X : am_X} {f g : Nat → Int64} {u v : Int32} (hX : am_K (d + 2) false nm_X9_settle P X) (hn : n ≤ 150) (hK : X 79 [some (aR 83), some (aI u), some (aI v), some (aI (nI n))] [] (fF M n q (hqf n f) (hqf n g))) : ∀ m i, i + m = n → X 45 [some (aR 83), some (aI u), some (aI v), some (aI (nI i))] [] (fF M n q (hqf i f) (hqf i g)) := by
  have e : ∀ f' g', (fF M n q f' g').1 83 11 = nI n := fun _ _ => rfl
  intro m
  induction m with
  | zero =>
    intro i hi
    have hi : i = n := by omega
    subst hi
    refine am_run hX 4 _ _ _ _ ?_
    conv => whnf
    rw [e]
    refine ⟨fun _ => ?_, fun c => absurd (nI_le (by omega) (by omega)) c⟩
    exact hK
  | succ m ih =>
    intro i hi
    have hin : vp_in (nI i) 150 := vp_in_nI (by omega) (by decide)
    have ih := ih (i + 1) (by omega)
    refine am_run hX 4 _ _ _ _ ?_
    conv => whnf
    rw [e]
    refine ⟨fun c => absurd c (nI_ge (by omega) (by omega)), fun _ => ?_⟩
    refine am_run hX 18 _ _ _ _ ?_
    conv => whnf
    refine ⟨hin, ?_⟩
    conv => whnf
    refine ⟨hin, ?_⟩
    conv => whnf
    rw [nI_clamp (n := i) (by omega), fF_f]
    refine ⟨hin, ?_⟩
    conv => whnf
    refine ⟨hin, ?_⟩
    conv => whnf
    rw [nI_clamp (n := i) (by omega), fF_g, nI_1]
    rw [← hqf_s, ← hqf_s] at ih
    exact ih
set_option maxRecDepth 100000 in
theorem so_l {P : am_Q} {X : am_X} {u : Int32} (hX : am_K (d + 2) false nm_X9_settle P X) (hn : n ≤ 150) : ∀ (k : Nat) (f g : Nat → Int64) (l : Option am_V), k < 2 ^ 30 → (∀ l, X 82 [some (aR 83), some (aI u), some (aI (nI (stl n k f g).1)), l] [] (fF M n q (stl n k f g).2.1 (stl n k f g).2.2)) → X 25 [some (aR 83), some (aI u), some (aI (nI k)), l] [] (fF M n q f g) := by
  have e : ∀ f' g', (fF M n q f' g').1 83 11 = nI n := fun _ _ => rfl
  intro k
  induction k with
  | zero =>
    intro f g l _ hK
    refine am_run hX 2 _ _ _ _ ?_
    conv => whnf
    refine ⟨fun _ => ?_, fun c => absurd (by decide) c⟩
    exact hK l
  | succ k ih =>
    intro f g l hk hK
    refine am_run hX 2 _ _ _ _ ?_
    conv => whnf
    refine ⟨fun c => absurd c (nI_ge (a := 0) (by omega) (by omega)), fun _ => ?_⟩
    refine am_run hX 5 _ _ _ _ ?_
    conv => whnf
    rw [e]
    refine am_c1 (ct_allEven (d := d + 1) hn) ?_
    cases ha : allN (fun j => e1J (f j) (g j)) n with
    | false =>
      have es : stl n (k + 1) f g = (k + 1, f, g) := by
        simp only [stl]
        rw [ha, if_neg (by decide)]
      rw [es] at hK
      conv => whnf
      refine ⟨fun _ => ?_, fun c => absurd rfl c⟩
      exact hK l
    | true =>
      have es : stl n (k + 1) f g = stl n k (hqf n f) (hqf n g) := by
        simp only [stl]
        rw [ha, if_pos rfl]
      rw [es] at hK
      conv => whnf
      refine ⟨fun c => absurd c (by decide), fun _ => ?_⟩
      refine am_run hX 3 _ _ _ _ ?_
      conv => whnf
      rw [show nI (k + 1) + (-1) = nI k from nI_d1 k]
      have key := sh_l (d := d) (M := M) (q := q) (f := f) (g := g) (u := u) (v := nI k) hX hn (by
        refine am_run hX 1 _ _ _ _ ?_
        conv => whnf
        exact ih _ _ _ (by omega) hK) n 0 (by omega)
      rw [hqf_0, hqf_0] at key
      exact key
end STL
