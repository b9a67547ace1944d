/-! THE REFERENCE'S settleSum: its first two loops -/
def cntN (p : Nat → Bool) : Nat → Nat
  | 0 => 0
  | n + 1 => cntN p n + (if p n = true then 1 else 0)
theorem cnt_le (p : Nat → Bool) : ∀ n, cntN p n ≤ n
  | 0 => Nat.le_refl _
  | n + 1 => by
    have := cnt_le p n
    simp only [cntN]
    by_cases h : p n = true
    · rw [if_pos h]
      omega
    · rw [if_neg h]
      omega
theorem cnn_1 {p : Nat → Bool} {n : Nat} (h : p n = true) : cntN p (n + 1) = cntN p n + 1 := by
  simp only [cntN]
  rw [if_pos h]
theorem cnn_0 {p : Nat → Bool} {n : Nat} (h : p n = false) : cntN p (n + 1) = cntN p n := by
  simp only [cntN]
  rw [if_neg (by rw [h]; decide)]
  rfl
def nzJ (u v : Int64) : Bool := decide (¬ (u = 0 ∧ v = 0))
/-- halved as often as may be -/
def rtl (kk : Nat → Nat) (n : Nat) : Nat → (Nat → Int64) → (Nat → Int64) → Nat × (Nat → Int64) × (Nat → Int64)
  | 0, f, g => (0, f, g)
  | k + 1, f, g => if allN (fun j => evJ (f (kk j)) && evJ (g (kk j))) n = true then rtl kk n k (hvF kk f n) (hvF kk g n) else (k + 1, f, g)
section SSM
variable {d n : Nat} {M : mm_M} {q t : Nat → Int32} {kk : Nat → Nat}
set_option maxRecDepth 100000 in
theorem ss_1 {P : am_Q} {X : am_X} {f g : Nat → Int64} {u : Int32} (hX : am_K d false nm_X12_settleSum P X) (hn : n ≤ 22501) (hq : ∀ j, j < n → kk j < 65536 ∧ q j = nI (kk j)) (hK : X 58 [some (aR 108), some (aI u), some (aI (nI (cntN (fun j => nzJ (f (kk j)) (g (kk j))) n))), some (aI (nI n)), none] [] (wF M n q t f g)) : ∀ m i, i + m = n → X 4 [some (aR 108), some (aI u), some (aI (nI (cntN (fun j => nzJ (f (kk j)) (g (kk j))) i))), some (aI (nI i)), none] [] (wF M n q t f g) := by
  intro m
  induction m with
  | zero =>
    intro i hi
    have hi : i = n := by omega
    subst hi
    refine am_run hX 4 _ _ _ _ ?_
    conv => whnf
    rw [show (wF M i q t f g).1 108 64 = nI i from rfl]
    refine ⟨fun _ => ?_, fun c => absurd (nI_le (by omega) (by omega)) c⟩
    exact hK
  | succ m ih =>
    intro i hi
    obtain ⟨hk, ek⟩ := hq i (by omega)
    have hin : vp_in (nI (kk i)) 65536 := vp_in_nI hk (by decide)
    have hin2 : vp_in (nI i) 22501 := vp_in_nI (by omega) (by decide)
    have ih := ih (i + 1) (by omega)
    refine am_run hX 4 _ _ _ _ ?_
    conv => whnf
    rw [show (wF M n q t f g).1 108 64 = nI n from rfl]
    refine ⟨fun c => absurd c (nI_ge (by omega) (by omega)), fun _ => ?_⟩
    refine am_run hX 11 _ _ _ _ ?_
    conv => whnf
    refine ⟨hin2, ?_⟩
    conv => whnf
    rw [nI_clamp (n := i) (by omega), show (wF M n q t f g).1 149 i = nI (kk i) from ek]
    refine ⟨hin, ?_⟩
    conv => whnf
    rw [nI_clamp (n := kk i) (by omega), show (wF M n q t f g).2 146 (kk i) = f (kk i) from rfl, lg_0]
    refine ⟨fun c => ?_, fun c => ?_⟩
    · rw [cnn_1 (p := fun j => nzJ (f (kk j)) (g (kk j))) (decide_eq_true fun z => c z.1)] at ih
      refine am_run hX 6 _ _ _ _ ?_
      conv => whnf
      rw [nI_1, nI_1]
      exact ih
    · have c : f (kk i) = 0 := Decidable.byContradiction c
      refine am_run hX 10 _ _ _ _ ?_
      conv => whnf
      refine ⟨hin2, ?_⟩
      conv => whnf
      rw [nI_clamp (n := i) (by omega), show (wF M n q t f g).1 149 i = nI (kk i) from ek]
      refine ⟨hin, ?_⟩
      conv => whnf
      rw [nI_clamp (n := kk i) (by omega), show (wF M n q t f g).2 147 (kk i) = g (kk i) from rfl, lg_0]
      refine ⟨fun c2 => ?_, fun c2 => ?_⟩
      · rw [cnn_0 (p := fun j => nzJ (f (kk j)) (g (kk j))) (decide_eq_false fun z => z ⟨c, c2⟩)] at ih
        refine am_run hX 5 _ _ _ _ ?_
        conv => whnf
        rw [show (0 : Int32) = nI 0 from rfl, nI_add, nI_1]
        exact ih
      · rw [cnn_1 (p := fun j => nzJ (f (kk j)) (g (kk j))) (decide_eq_true fun z => c2 z.2)] at ih
        refine am_run hX 6 _ _ _ _ ?_
        conv => whnf
        rw [nI_1, nI_1]
        exact ih
set_option maxRecDepth 100000 in
theorem ss_2 {P : am_Q} {X : am_X} {u v : Int32} (hX : am_K (d + 1) false nm_X12_settleSum P X) (hn : n ≤ 22501) (hq : ∀ j, j < n → kk j < 65536 ∧ q j = nI (kk j)) : ∀ (k : Nat) (f g : Nat → Int64), k < 2 ^ 30 → X 89 [some (aR 108), some (aI u), some (aI v), some (aI (nI (rtl kk n k f g).1)), none] [] (wF M n q t (rtl kk n k f g).2.1 (rtl kk n k f g).2.2) → X 68 [some (aR 108), some (aI u), some (aI v), some (aI (nI k)), none] [] (wF M n q t f g) := by
  intro k
  induction k with
  | zero =>
    intro f g _ hK
    refine am_run hX 2 _ _ _ _ ?_
    conv => whnf
    refine ⟨fun _ => ?_, fun c => absurd (by decide) c⟩
    exact hK
  | succ k ih =>
    intro f g hk hK
    refine am_run hX 2 _ _ _ _ ?_
    conv => whnf
    refine ⟨fun c => absurd c (nI_ge (a := 0) (by omega) (by omega)), fun _ => ?_⟩
    refine am_run hX 3 _ _ _ _ ?_
    conv => whnf
    refine am_c1 (ct_wEven (d := d) hn hq) ?_
    cases ha : allN (fun j => evJ (f (kk j)) && evJ (g (kk j))) n with
    | false =>
      have es : rtl kk n (k + 1) f g = (k + 1, f, g) := by
        simp only [rtl]
        rw [ha, if_neg (by decide)]
      rw [es] at hK
      conv => whnf
      refine ⟨fun _ => ?_, fun c => absurd rfl c⟩
      exact hK
    | true =>
      have es : rtl kk n (k + 1) f g = rtl kk n k (hvF kk f n) (hvF kk g n) := by
        simp only [rtl]
        rw [ha, if_pos rfl]
      rw [es] at hK
      conv => whnf
      refine ⟨fun c => absurd c (by decide), fun _ => ?_⟩
      refine am_run hX 4 _ _ _ _ ?_
      conv => whnf
      refine am_c0 (ct_halve (d := d) hn hq) ?_
      conv => whnf
      rw [nI_d1]
      exact ih _ _ (by omega) hK
end SSM
