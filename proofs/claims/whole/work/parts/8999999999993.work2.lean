/-! THE REFERENCE'S WORK ROW of SUMS: isSmall, isWorkSmall, isWorkEven, halveWork -/
def smJ (v : Int64) : Bool := decide (¬ v < -1000000 ∧ ¬ 1000000 < v)
def evJ (v : Int64) : Bool := decide (v - v / 2 * 2 = 0)
/-- each key's number halved, one after the other -/
def hvF (kk : Nat → Nat) (f : Nat → Int64) : Nat → Nat → Int64
  | 0 => f
  | i + 1 => vp_updL (hvF kk f i) (kk i) (hvF kk f i (kk i) / 2)
section WRL
variable {d n : Nat} {M : mm_M} {q t : Nat → Int32} {f g : Nat → Int64} {kk : Nat → Nat}
theorem lg_lt (a b : Int64) : lg_cmp a b < 0 ↔ a < b := by
  rw [← Int32.not_le, lg_ge]
  exact Decidable.not_not
theorem lg_gt (a b : Int64) : 0 < lg_cmp a b ↔ b < a := by
  rw [← Int32.not_le, lg_le]
  exact Decidable.not_not
set_option maxRecDepth 100000 in
theorem ct_small {v : Int64} : am_M (d + 1) false nm_X12_isSmall [aJ v] M (am_q1 (aI (b01 (smJ v))) M) := by
  refine ⟨rfl, rfl, rfl, fun X hX => am_run hX 20 _ _ _ _ ?_⟩
  conv => whnf
  rw [lg_lt]
  refine ⟨fun c => ?_, fun c => ?_⟩
  · conv => whnf
    rw [show smJ v = false from decide_eq_false fun z => z.1 c]
    exact ⟨rfl, rfl, rfl⟩
  · conv => whnf
    rw [lg_gt]
    refine ⟨fun c2 => ?_, fun c2 => ?_⟩
    · conv => whnf
      rw [show smJ v = false from decide_eq_false fun z => z.2 c2]
      exact ⟨rfl, rfl, rfl⟩
    · conv => whnf
      rw [show smJ v = true from decide_eq_true ⟨c, c2⟩]
      exact ⟨rfl, rfl, rfl⟩
theorem all_f {p : Nat → Bool} {S i : Nat} (hi : i < S) (h : p i = false) : allN p S = false := by
  cases z : allN p S with
  | false => rfl
  | true =>
    have := (all_iff S).mp z i hi
    rw [h] at this
    exact absurd this (by decide)
set_option maxRecDepth 100000 in
theorem ws_l {P : am_Q} {X : am_X} (hX : am_K (d + 1) false nm_X12_isWorkSmall P X) (hn : n ≤ 22501) (hq : ∀ j, j < n → kk j < 65536 ∧ q j = nI (kk j)) (hP : P (.inl (some (aI (b01 (allN (fun j => smJ (f (kk j)) && smJ (g (kk j))) n))))) (wF M n q t f g)) : ∀ m i, i + m = n → allN (fun j => smJ (f (kk j)) && smJ (g (kk j))) i = true → X 2 [some (aR 108), some (aI (nI i))] [] (wF M n q t f g) := by
  intro m
  induction m with
  | zero =>
    intro i hi ha
    have hi : i = n := by omega
    subst hi
    refine am_run hX 20 _ _ _ _ ?_
    conv => whnf
    rw [show (wF M i q t f g).1 108 64 = nI i from rfl]
    refine ⟨fun _ => ?_, fun c => absurd (nI_le (by omega) (by omega)) c⟩
    conv => whnf
    rw [ha] at hP
    exact ⟨rfl, hP⟩
  | succ m ih =>
    intro i hi ha
    obtain ⟨hk, ek⟩ := hq i (by omega)
    have hin : vp_in (nI (kk i)) 65536 := vp_in_nI hk (by decide)
    have hin2 : vp_in (nI i) 22501 := vp_in_nI (by omega) (by decide)
    have ih := ih (i + 1) (by omega)
    have hno : (smJ (f (kk i)) && smJ (g (kk i))) = false → P (.inl (some (aI 0))) (wF M n q t f g) := fun z => by
      rw [all_f (i := i) (by omega) z] at hP
      exact hP
    refine am_run hX 4 _ _ _ _ ?_
    conv => whnf
    rw [show (wF M n q t f g).1 108 64 = nI n from rfl]
    refine ⟨fun c => absurd c (nI_ge (by omega) (by omega)), fun _ => ?_⟩
    refine am_run hX 9 _ _ _ _ ?_
    conv => whnf
    refine ⟨hin2, ?_⟩
    conv => whnf
    rw [nI_clamp (n := i) (by omega), show (wF M n q t f g).1 149 i = nI (kk i) from ek]
    refine ⟨hin, ?_⟩
    conv => whnf
    rw [nI_clamp (n := kk i) (by omega), show (wF M n q t f g).2 146 (kk i) = f (kk i) from rfl]
    refine am_c1 (ct_small (d := d)) ?_
    cases hs : smJ (f (kk i)) with
    | false =>
      conv => whnf
      refine ⟨fun _ => ?_, fun c => absurd rfl c⟩
      refine am_run hX 3 _ _ _ _ ?_
      conv => whnf
      exact ⟨rfl, hno (by rw [hs]; rfl)⟩
    | true =>
      conv => whnf
      refine ⟨fun c => absurd c (by decide), fun _ => ?_⟩
      refine am_run hX 9 _ _ _ _ ?_
      conv => whnf
      refine ⟨hin2, ?_⟩
      conv => whnf
      rw [nI_clamp (n := i) (by omega), show (wF M n q t f g).1 149 i = nI (kk i) from ek]
      refine ⟨hin, ?_⟩
      conv => whnf
      rw [nI_clamp (n := kk i) (by omega), show (wF M n q t f g).2 147 (kk i) = g (kk i) from rfl]
      refine am_c1 (ct_small (d := d)) ?_
      cases hs2 : smJ (g (kk i)) with
      | false =>
        conv => whnf
        refine ⟨fun c => absurd rfl c, fun _ => ?_⟩
        refine am_run hX 3 _ _ _ _ ?_
        conv => whnf
        exact ⟨rfl, hno (by rw [hs, hs2]; rfl)⟩
      | true =>
        conv => whnf
        refine ⟨fun _ => ?_, fun c => absurd (by decide) c⟩
        refine am_run hX 2 _ _ _ _ ?_
        conv => whnf
        rw [nI_1]
        exact ih (by simp only [allN]; rw [ha, hs, hs2]; rfl)
set_option maxRecDepth 100000 in
theorem ct_wSmall (hn : n ≤ 22501) (hq : ∀ j, j < n → kk j < 65536 ∧ q j = nI (kk j)) : am_M (d + 2) false nm_X12_isWorkSmall [aR 108] (wF M n q t f g) (am_q1 (aI (b01 (allN (fun j => smJ (f (kk j)) && smJ (g (kk j))) n))) (wF M n q t f g)) := by
  refine ⟨rfl, rfl, rfl, fun X hX => am_run hX 2 _ _ _ _ ?_⟩
  conv => whnf
  exact ws_l hX hn hq ⟨rfl, rfl⟩ n 0 (by omega) rfl
set_option maxRecDepth 100000 in
theorem we_l {P : am_Q} {X : am_X} (hX : am_K d false nm_X12_isWorkEven P X) (hn : n ≤ 22501) (hq : ∀ j, j < n → kk j < 65536 ∧ q j = nI (kk j)) (hP : P (.inl (some (aI (b01 (allN (fun j => evJ (f (kk j)) && evJ (g (kk j))) n))))) (wF M n q t f g)) : ∀ m i, i + m = n → allN (fun j => evJ (f (kk j)) && evJ (g (kk j))) i = true → X 2 [some (aR 108), some (aI (nI i))] [] (wF M n q t f g) := by
  intro m
  induction m with
  | zero =>
    intro i hi ha
    have hi : i = n := by omega
    subst hi
    refine am_run hX 20 _ _ _ _ ?_
    conv => whnf
    rw [show (wF M i q t f g).1 108 64 = nI i from rfl]
    refine ⟨fun _ => ?_, fun c => absurd (nI_le (by omega) (by omega)) c⟩
    conv => whnf
    rw [ha] at hP
    exact ⟨rfl, hP⟩
  | succ m ih =>
    intro i hi ha
    obtain ⟨hk, ek⟩ := hq i (by omega)
    have hin : vp_in (nI (kk i)) 65536 := vp_in_nI hk (by decide)
    have hin2 : vp_in (nI i) 22501 := vp_in_nI (by omega) (by decide)
    have ih := ih (i + 1) (by omega)
    have hno : (evJ (f (kk i)) && evJ (g (kk i))) = false → P (.inl (some (aI 0))) (wF M n q t f g) := fun z => by
      rw [all_f (i := i) (by omega) z] at hP
      exact hP
    refine am_run hX 4 _ _ _ _ ?_
    conv => whnf
    rw [show (wF M n q t f g).1 108 64 = nI n from rfl]
    refine ⟨fun c => absurd c (nI_ge (by omega) (by omega)), fun _ => ?_⟩
    refine am_run hX 12 _ _ _ _ ?_
    conv => whnf
    refine ⟨hin2, ?_⟩
    conv => whnf
    rw [nI_clamp (n := i) (by omega), show (wF M n q t f g).1 149 i = nI (kk i) from ek]
    refine ⟨hin, ?_⟩
    conv => whnf
    rw [nI_clamp (n := kk i) (by omega), show (wF M n q t f g).2 146 (kk i) = f (kk i) from rfl]
    refine ⟨by decide, ?_⟩
    conv => whnf
    rw [lg_0]
    refine ⟨fun c => ?_, fun c => ?_⟩
    · refine am_run hX 3 _ _ _ _ ?_
      conv => whnf
      exact ⟨rfl, hno (by rw [show evJ (f (kk i)) = false from decide_eq_false c]; rfl)⟩
    · have hs : evJ (f (kk i)) = true := decide_eq_true (Decidable.byContradiction c)
      refine am_run hX 12 _ _ _ _ ?_
      conv => whnf
      refine ⟨hin2, ?_⟩
      conv => whnf
      rw [nI_clamp (n := i) (by omega), show (wF M n q t f g).1 149 i = nI (kk i) from ek]
      refine ⟨hin, ?_⟩
      conv => whnf
      rw [nI_clamp (n := kk i) (by omega), show (wF M n q t f g).2 147 (kk i) = g (kk i) from rfl]
      refine ⟨by decide, ?_⟩
      conv => whnf
      rw [lg_0]
      refine ⟨fun c2 => ?_, fun c2 => ?_⟩
      · refine am_run hX 2 _ _ _ _ ?_
        conv => whnf
        rw [nI_1]
        exact ih (by simp only [allN]; rw [ha, hs, show evJ (g (kk i)) = true from decide_eq_true c2]; rfl)
      · refine am_run hX 3 _ _ _ _ ?_
        conv => whnf
        exact ⟨rfl, hno (by rw [hs, show evJ (g (kk i)) = false from decide_eq_false c2]; rfl)⟩
set_option maxRecDepth 100000 in
theorem ct_wEven (hn : n ≤ 22501) (hq : ∀ j, j < n → kk j < 65536 ∧ q j = nI (kk j)) : am_M (d + 1) false nm_X12_isWorkEven [aR 108] (wF M n q t f g) (am_q1 (aI (b01 (allN (fun j => evJ (f (kk j)) && evJ (g (kk j))) n))) (wF M n q t f g)) := by
  refine ⟨rfl, rfl, rfl, fun X hX => am_run hX 2 _ _ _ _ ?_⟩
  conv => whnf
  exact we_l hX hn hq ⟨rfl, rfl⟩ n 0 (by omega) rfl
set_option maxRecDepth 100000 in
theorem wh_l {P : am_Q} {X : am_X} (hX : am_K d false nm_X12_halveWork P X) (hn : n ≤ 22501) (hq : ∀ j, j < n → kk j < 65536 ∧ q j = nI (kk j)) (hP : P (.inl none) (wF M n q t (hvF kk f n) (hvF kk g n))) : ∀ m i, i + m = n → X 2 [some (aR 108), some (aI (nI i))] [] (wF M n q t (hvF kk f i) (hvF kk g i)) := by
  intro m
  induction m with
  | zero =>
    intro i hi
    have hi : i = n := by omega
    subst hi
    refine am_run hX 20 _ _ _ _ ?_
    conv => whnf
    rw [show ∀ f' g', (wF M i q t f' g').1 108 64 = nI i from fun _ _ => rfl]
    refine ⟨fun _ => ?_, fun c => absurd (nI_le (by omega) (by omega)) c⟩
    conv => whnf
    exact ⟨trivial, hP⟩
  | succ m ih =>
    intro i hi
    obtain ⟨hk, ek⟩ := hq i (by omega)
    have hin : vp_in (nI (kk i)) 65536 := vp_in_nI hk (by decide)
    have hin2 : vp_in (nI i) 22501 := vp_in_nI (by omega) (by decide)
    have ih := ih (i + 1) (by omega)
    have eq' : ∀ f' g', (wF M n q t f' g').1 149 i = nI (kk i) := fun _ _ => ek
    refine am_run hX 4 _ _ _ _ ?_
    conv => whnf
    rw [show ∀ f' g', (wF M n q t f' g').1 108 64 = nI n from fun _ _ => rfl]
    refine ⟨fun c => absurd c (nI_ge (by omega) (by omega)), fun _ => ?_⟩
    refine am_run hX 34 _ _ _ _ ?_
    conv => whnf
    refine ⟨hin2, ?_⟩
    conv => whnf
    refine ⟨hin2, ?_⟩
    conv => whnf
    rw [nI_clamp (n := i) (by omega), eq']
    refine ⟨hin, ?_⟩
    conv => whnf
    refine ⟨by decide, ?_⟩
    conv => whnf
    refine ⟨hin, ?_⟩
    conv => whnf
    rw [nI_clamp (n := kk i) (by omega), wF_f]
    refine ⟨hin2, ?_⟩
    conv => whnf
    refine ⟨hin2, ?_⟩
    conv => whnf
    rw [nI_clamp (n := i) (by omega), eq']
    refine ⟨hin, ?_⟩
    conv => whnf
    refine ⟨by decide, ?_⟩
    conv => whnf
    refine ⟨hin, ?_⟩
    conv => whnf
    rw [nI_clamp (n := kk i) (by omega), wF_g, nI_1]
    exact ih
set_option maxRecDepth 100000 in
theorem ct_halve (hn : n ≤ 22501) (hq : ∀ j, j < n → kk j < 65536 ∧ q j = nI (kk j)) : am_M (d + 1) false nm_X12_halveWork [aR 108] (wF M n q t f g) (am_q0 (wF M n q t (hvF kk f n) (hvF kk g n))) := by
  refine ⟨rfl, rfl, rfl, fun X hX => am_run hX 2 _ _ _ _ ?_⟩
  conv => whnf
  exact wh_l (f := f) (g := g) hX hn hq ⟨rfl, rfl⟩ n 0 (by omega)
theorem hvF_o {k : Nat} : ∀ i, (∀ j, j < i → kk j ≠ k) → hvF kk f i k = f k
  | 0, _ => rfl
  | i + 1, h => by
    show vp_updL (hvF kk f i) (kk i) _ k = f k
    unfold vp_updL
    rw [if_neg (fun e => h i (by omega) e.symm)]
    exact hvF_o i fun j hj => h j (by omega)
theorem hvF_i {j : Nat} (hd : ∀ a b, a < n → b < n → kk a = kk b → a = b) : ∀ i, i ≤ n → j < i → hvF kk f i (kk j) = f (kk j) / 2
  | 0, _, h => absurd h (Nat.not_lt_zero _)
  | i + 1, hi, h => by
    show vp_updL (hvF kk f i) (kk i) _ (kk j) = _
    unfold vp_updL
    by_cases e : j = i
    · rw [e, if_pos rfl, hvF_o i fun a ha z => by have := hd a i (by omega) (by omega) z; omega]
    · rw [if_neg (fun z => e (hd j i (by omega) (by omega) z))]
      exact hvF_i hd i (by omega) (by omega)
end WRL
