/-! THE REFERENCE'S bring: a SUM comes to the work row, times a number -/
def brF (κ : Nat → Nat) (c : Int64) (R : Nat → Int32) (f : Nat → Int64) : Nat → Nat → Int64
  | 0 => f
  | i + 1 => vp_updL (brF κ c R f i) (κ i) (brF κ c R f i (κ i) + c * (R i).toInt64)
section BRG
variable {d n : Nat} {M : mm_M}
set_option maxRecDepth 100000 in
theorem br_l {P : am_Q} {X : am_X} {x s o : Nat} {κ : Nat → Nat} {R I : Nat → Int32} {f g : Nat → Int64} {sg ov : Int32} {c : Int64} (hX : am_K (d + 1) false nm_X12_bring P X) (hx : x < 2) (hs : s ≤ 150) (ho : o = 150 * x) (h41 : M.1 141 x = nI s) (hκ : ∀ j, j < s → κ j < 65536 ∧ M.1 143 (o + j) = nI (κ j) ∧ M.1 144 (o + j) = R j ∧ M.1 145 (o + j) = I j) (hn : n + s ≤ 22501) (hP : ∀ n' q t kk, n' ≤ n + s → wkO n' q t (brF κ c R f s) (brF κ c I g s) kk → P (.inl none) (wF M n' q t (brF κ c R f s) (brF κ c I g s))) : ∀ m i n' q t kk, i + m = s → n' ≤ n + i → wkO n' q t (brF κ c R f i) (brF κ c I g i) kk → X 20 [some (aR 108), some (aI (nI x)), some (aI sg), some (aI ov), some (aJ c), none, some (aI (nI (o + i)))] [] (wF M n' q t (brF κ c R f i) (brF κ c I g i)) := by
  have hin : vp_in (nI x) 2 := vp_in_nI hx (by decide)
  have e3 : (150 : Int32) * nI x + nI s = nI (o + s) := by rw [show (150 : Int32) = nI 150 from rfl, nI_mul, nI_add, ho]
  intro m
  induction m with
  | zero =>
    intro i n' q t kk hi hn' hw
    have hi : i = s := by omega
    subst hi
    refine am_run hX 20 _ _ _ _ ?_
    conv => whnf
    refine ⟨hin, ?_⟩
    conv => whnf
    rw [nI_clamp (n := x) (by omega), show ∀ f' g', (wF M n' q t f' g').1 141 x = nI i from fun _ _ => h41, e3]
    refine ⟨fun _ => ?_, fun z => absurd (nI_le (by omega) (by omega)) z⟩
    conv => whnf
    exact ⟨trivial, hP n' q t kk hn' hw⟩
  | succ m ih =>
    intro i n' q t kk hi hn' hw
    obtain ⟨hk, k1, k2, k3⟩ := hκ i (by omega)
    have hia : vp_in (nI (o + i)) 300 := vp_in_nI (by omega) (by decide)
    refine am_run hX 10 _ _ _ _ ?_
    conv => whnf
    refine ⟨hin, ?_⟩
    conv => whnf
    rw [nI_clamp (n := x) (by omega), show ∀ f' g', (wF M n' q t f' g').1 141 x = nI s from fun _ _ => h41, e3]
    refine ⟨fun z => absurd z (nI_ge (by omega) (by omega)), fun _ => ?_⟩
    refine am_run hX 22 _ _ _ _ ?_
    conv => whnf
    iterate 3
      refine ⟨hia, ?_⟩
      conv => whnf
    rw [nI_clamp (n := o + i) (by omega), show ∀ f' g', (wF M n' q t f' g').1 143 (o + i) = nI (κ i) from fun _ _ => k1, show ∀ f' g', (wF M n' q t f' g').1 144 (o + i) = R i from fun _ _ => k2, show ∀ f' g', (wF M n' q t f' g').1 145 (o + i) = I i from fun _ _ => k3]
    refine am_cq (ct_workR (d := d) hw (by omega) hk) ?_
    rintro r' M' ⟨rfl, n2, q2, t2, kk2, h2, hw2, rfl⟩
    refine ⟨none, rfl, ?_⟩
    conv => whnf
    rw [nI_1]
    exact ih (i + 1) n2 q2 t2 kk2 (by omega) (by omega) hw2
end BRG
