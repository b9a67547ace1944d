/-! code: the reference examines: what each PAULI is -/
/-- what examine may change -/
def exF (M N : mm_M) : Prop := (∀ k, k ≠ 108 → (k < 181 ∨ 185 < k) → N.1 k = M.1 k) ∧ N.2 = M.2 ∧ ∀ y, y ≠ 124 → N.1 108 y = M.1 108 y
theorem exF_r (M : mm_M) : exF M M := ⟨fun _ _ _ => rfl, rfl, fun _ _ => rfl⟩
theorem exF_t {M N K : mm_M} (h : exF M N) (g : exF N K) : exF M K := ⟨fun k a b => (g.1 k a b).trans (h.1 k a b), g.2.1.trans h.2.1, fun y a => (g.2.2 y a).trans (h.2.2 y a)⟩
theorem exF_i {M : mm_M} {k : Nat} {f : Nat → Int32} (h : 181 ≤ k ∧ k ≤ 185) : exF M (mm_i M k f) := by
  refine ⟨fun j a b => mm_ne _ _ _ _ (by omega), rfl, fun y _ => ?_⟩
  rw [mm_ne _ _ _ _ (by omega)]
theorem ex_nar : ∀ b, b < 3 → vp_nar .byte (nI b) = nI b := by decide +kernel
/-- the CODE's rows at the reference -/
def exR (M : mm_M) (n s : Nat) (x z : Nat → Nat) : Prop := M.1 108 110 = nI n ∧ M.1 108 111 = nI s ∧ 1 ≤ n ∧ n ≤ 8 ∧ s ≤ 8 ∧ ∀ j, j < s → M.1 176 j = nI (x j) ∧ M.1 177 j = nI (z j) ∧ x j < 256 ∧ z j < 256
theorem exR_f {M N : mm_M} {n s : Nat} {x z : Nat → Nat} (h : exR M n s x z) (hF : exF M N) : exR N n s x z := by
  obtain ⟨a, b, c, e, f, g⟩ := h
  refine ⟨(hF.2.2 110 (by decide)).trans a, (hF.2.2 111 (by decide)).trans b, c, e, f, fun j hj => ?_⟩
  rw [hF.1 176 (by decide) (by decide), hF.1 177 (by decide) (by decide)]
  exact g j hj
section EXA
variable {d : Nat} {M : mm_M} {n s : Nat} {x z : Nat → Nat}
theorem ct_syE {N : mm_M} {v : Nat} (h : exR N n s x z) (hv : v < 65536) : am_M (d + 3) false nm_X12_syndromeOf [aR 108, aI (nI v)] N (am_q1 (aI (nI (cdSy x z n s v))) N) := by
  obtain ⟨a, b, c, e, f, g⟩ := h
  have := ct_sOf (d := d) (M := N) (n := n) (s := s) (x := v) (gx := x) (gz := z) a b c e f hv g
  rw [syR_f e s (fun j hj => ⟨(g j hj).2.2.1, (g j hj).2.2.2⟩)] at this
  exact this
set_option maxRecDepth 100000 in
/-- the first loop: does it commute with all rows -/
theorem ex_1 {P : am_Q} {X : am_X} (hX : am_K (d + 3) false nm_X12_examine P X) (hR : exR M n s x z) (hk : ∀ N, exF M N → (∀ u, u < 4 ^ n → N.1 181 u = if cdSy x z n s u = 0 then 1 else 0) → X 42 [some (aR 108), some (aI (nI (4 ^ n))), some (aI (nI (4 ^ n))), none, none, none] [] N) : ∀ (m v : Nat) (N : mm_M), v + m = 4 ^ n → exF M N → (∀ u, u < v → N.1 181 u = if cdSy x z n s u = 0 then 1 else 0) → X 11 [some (aR 108), some (aI (nI (4 ^ n))), some (aI (nI v)), none, none, none] [] N := by
  have h4 : 4 ^ n ≤ 65536 := Nat.pow_le_pow_right (n := 4) (j := 8) (by decide) hR.2.2.2.1
  intro m
  induction m with
  | zero =>
    intro v N ev hF h
    obtain rfl : v = 4 ^ n := by omega
    refine am_run hX 3 _ _ _ _ ?_
    conv => whnf
    exact ⟨fun _ => hk N hF h, fun c => absurd (nI_le (Nat.le_refl _) (by omega)) c⟩
  | succ m ih =>
    intro v N ev hF h
    have hN := exR_f hR hF
    have hend : ∀ b, b < 2 → nI b = (if cdSy x z n s v = 0 then (1 : Int32) else 0) → X 34 [some (aR 108), some (aI (nI (4 ^ n))), some (aI (nI v)), none, none, none] [aI (nI b), aI (nI v), aR 181] N := by
      intro b hb hv
      refine am_run hX 4 _ _ _ _ ?_
      conv => whnf
      refine ⟨vp_in_nI (by show v < 65536; omega) (by decide), ?_⟩
      conv => whnf
      rw [nI_clamp (n := v) (by omega), (by decide +kernel : ∀ b, b < 2 → (nI b).toInt8.toInt32 = nI b) b hb, show (if 3 = 2 then FieldType.boolean else FieldType.byte) = .byte from rfl, ex_nar b (by omega), nI_1]
      refine ih (v + 1) _ (by omega) (exF_t hF (exF_i (by decide))) (fun u hu => ?_)
      rw [mm_i1]
      unfold upd
      by_cases e : u = v
      · rw [if_pos e, hv, e]
      · rw [if_neg e]
        exact h u (by omega)
    refine am_run hX 10 _ _ _ _ ?_
    conv => whnf
    refine ⟨fun c => absurd c (nI_ge (by omega) (by omega)), fun _ => ?_⟩
    conv => whnf
    refine am_c1 (ct_syE (d := d) hN (by omega)) ?_
    conv => whnf
    have hsl : cdSy x z n s v < 2 ^ s := fsY_l _ _ _ _ s
    have hs8 : 2 ^ s ≤ 2 ^ 8 := Nat.pow_le_pow_right (by decide) hR.2.2.2.2.1
    refine ⟨fun c => ?_, fun c => ?_⟩
    · have c0 : ¬ cdSy x z n s v = 0 := fun e => c (by rw [e]; rfl)
      refine am_run hX 1 _ _ _ _ ?_
      conv => whnf
      exact hend 0 (by decide) (by rw [if_neg c0]; rfl)
    · have c0 : cdSy x z n s v = 0 := (nI_eq (b := 0) (by omega) (by decide)).mp (Classical.not_not.mp c)
      refine am_run hX 2 _ _ _ _ ?_
      conv => whnf
      exact hend 1 (by decide) (by rw [if_pos c0]; rfl)
set_option maxRecDepth 100000 in
/-- a product of the rows -/
theorem ex_pr {P : am_Q} {X : am_X} {N : mm_M} {e a : Nat} (hX : am_K (d + 3) false nm_X12_examine P X) (hR : exR N n s x z) (he : e < 256) (hk : ∀ l5, X 127 [some (aR 108), some (aI (nI a)), some (aI (nI e)), some (aI (nI (pxr x e s))), some (aI (nI (pxr z e s))), l5] [] N) : ∀ (m j : Nat), j + m = s → X 62 [some (aR 108), some (aI (nI a)), some (aI (nI e)), some (aI (nI (pxr x e j))), some (aI (nI (pxr z e j))), some (aI (nI j))] [] N := by
  obtain ⟨h110, h111, n1, n8, s8, hg⟩ := hR
  intro m
  induction m with
  | zero =>
    intro j ej
    obtain rfl : j = s := by omega
    refine am_run hX 4 _ _ _ _ ?_
    conv => whnf
    rw [h111]
    exact ⟨fun _ => hk _, fun c => absurd (nI_le (Nat.le_refl _) (by omega)) c⟩
  | succ m ih =>
    intro j ej
    have ih := ih (j + 1) (by omega)
    obtain ⟨v1, v2, v3, v4⟩ := hg j (by omega)
    have e176 : N.1 176 (nI j).toNatClampNeg = nI (x j) := by
      rw [nI_clamp (by omega)]
      exact v1
    have e177 : N.1 177 (nI j).toNatClampNeg = nI (z j) := by
      rw [nI_clamp (by omega)]
      exact v2
    refine am_run hX 12 _ _ _ _ ?_
    conv => whnf
    rw [h111]
    refine ⟨fun c => absurd c (nI_ge (by omega) (by omega)), fun _ => ?_⟩
    conv => whnf
    rw [nI_sh (by omega) j (by omega), nI_m1]
    refine ⟨fun c => ?_, fun c => ?_⟩
    · have c1 : ¬ e / 2 ^ j % 2 = 1 := fun y => c (by rw [y]; rfl)
      simp only [pxr, if_neg c1, Nat.xor_zero] at ih
      refine am_run hX 11 _ _ _ _ ?_
      conv => whnf
      rw [show nI (pxr x e j) ^^^ 0 = nI (pxr x e j) from by rw [show (0 : Int32) = nI 0 from rfl, nI_xor, Nat.xor_zero], nI_sh (by omega) j (by omega), nI_m1]
      refine ⟨fun _ => ?_, fun y => absurd c y⟩
      refine am_run hX 5 _ _ _ _ ?_
      conv => whnf
      rw [show nI (pxr z e j) ^^^ 0 = nI (pxr z e j) from by rw [show (0 : Int32) = nI 0 from rfl, nI_xor, Nat.xor_zero], nI_1]
      exact ih
    · have c1 : e / 2 ^ j % 2 = 1 := (nI_eq (b := 1) (by omega) (by decide)).mp (Classical.not_not.mp c)
      simp only [pxr, if_pos c1] at ih
      refine am_run hX 15 _ _ _ _ ?_
      conv => whnf
      refine ⟨vp_in_nI (by show j < 8; omega) (by decide), ?_⟩
      conv => whnf
      rw [e176, nI_xor, nI_sh (by omega) j (by omega), nI_m1]
      refine ⟨fun y => absurd y c, fun _ => ?_⟩
      refine am_run hX 9 _ _ _ _ ?_
      conv => whnf
      refine ⟨vp_in_nI (by show j < 8; omega) (by decide), ?_⟩
      conv => whnf
      rw [e177, nI_xor, nI_1]
      exact ih
end EXA
