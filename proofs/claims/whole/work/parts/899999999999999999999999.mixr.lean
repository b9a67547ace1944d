/-! mix, the reference: reset -/
def orB (W r a : Nat) : Bool := decide (a ||| 2 ^ r < 2 ^ W) && (decide (¬ (a ||| 2 ^ r) &&& 2 ^ r = 0) && ((!decide (a &&& 2 ^ r = 0) || decide ((a ||| 2 ^ r) ^^^ 2 ^ r = a)) && (decide (a &&& 2 ^ r = 0) || (decide ((a ^^^ 2 ^ r) &&& 2 ^ r = 0) && decide ((a ^^^ 2 ^ r) ||| 2 ^ r = a)))))
theorem or_all : ∀ W, W < 4 → ∀ r, r < W → ∀ a, a < 2 ^ W → orB W r a = true := by decide +kernel
theorem or_f {W r a : Nat} (hW : W ≤ 3) (hr : r < W) (ha : a < 2 ^ W) : a ||| 2 ^ r < 2 ^ W ∧ ¬ (a ||| 2 ^ r) &&& 2 ^ r = 0 ∧ (a &&& 2 ^ r = 0 → (a ||| 2 ^ r) ^^^ 2 ^ r = a) ∧ (¬ a &&& 2 ^ r = 0 → (a ^^^ 2 ^ r) &&& 2 ^ r = 0 ∧ (a ^^^ 2 ^ r) ||| 2 ^ r = a) := by
  have h := or_all W (by omega) r hr a ha
  simp only [orB, Bool.and_eq_true, Bool.or_eq_true, Bool.not_eq_true', decide_eq_true_eq, decide_eq_false_iff_not] at h
  obtain ⟨h1, h2, h3, h4⟩ := h
  exact ⟨h1, h2, fun z => h3.resolve_left fun q => q z, fun z => h4.resolve_left z⟩
noncomputable def m2R (m : Nat) (Z : Nat → Nat → R4) (i j a b : Nat) : R4 := iteR (a &&& m = 0 ∧ b &&& m = 0 ∧ lx i j a b) (ra (Z a b) (Z (a ||| m) (b ||| m))) (iteR (¬ a &&& m = 0 ∧ ¬ b &&& m = 0 ∧ lx i j (a ^^^ m) (b ^^^ m)) (0, 0, 0, 0) (Z a b))
theorem m2R_1 {m i j a b : Nat} {Z : Nat → Nat → R4} (h : a &&& m = 0 ∧ b &&& m = 0 ∧ lx i j a b) : m2R m Z i j a b = ra (Z a b) (Z (a ||| m) (b ||| m)) := iteR_t h
theorem m2R_2 {m i j a b : Nat} {Z : Nat → Nat → R4} (h : ¬ a &&& m = 0 ∧ ¬ b &&& m = 0 ∧ lx i j (a ^^^ m) (b ^^^ m)) : m2R m Z i j a b = (0, 0, 0, 0) := (iteR_f fun z => h.1 z.1).trans (iteR_t h)
theorem m2R_3 {m i j a b : Nat} {Z : Nat → Nat → R4} (n1 : ¬ (a &&& m = 0 ∧ b &&& m = 0 ∧ lx i j a b)) (n2 : ¬ (¬ a &&& m = 0 ∧ ¬ b &&& m = 0 ∧ lx i j (a ^^^ m) (b ^^^ m))) : m2R m Z i j a b = Z a b := (iteR_f n1).trans (iteR_f n2)
theorem m2R_e {m i j i' j' a b : Nat} {Z : Nat → Nat → R4} (h1 : a &&& m = 0 → b &&& m = 0 → (lx i j a b ↔ lx i' j' a b)) (h2 : ¬ a &&& m = 0 → ¬ b &&& m = 0 → (lx i j (a ^^^ m) (b ^^^ m) ↔ lx i' j' (a ^^^ m) (b ^^^ m))) : m2R m Z i j a b = m2R m Z i' j' a b := by
  unfold m2R
  have e1 : (a &&& m = 0 ∧ b &&& m = 0 ∧ lx i j a b) ↔ (a &&& m = 0 ∧ b &&& m = 0 ∧ lx i' j' a b) := ⟨fun z => ⟨z.1, z.2.1, (h1 z.1 z.2.1).mp z.2.2⟩, fun z => ⟨z.1, z.2.1, (h1 z.1 z.2.1).mpr z.2.2⟩⟩
  have e2 : (¬ a &&& m = 0 ∧ ¬ b &&& m = 0 ∧ lx i j (a ^^^ m) (b ^^^ m)) ↔ (¬ a &&& m = 0 ∧ ¬ b &&& m = 0 ∧ lx i' j' (a ^^^ m) (b ^^^ m)) := ⟨fun z => ⟨z.1, z.2.1, (h2 z.1 z.2.1).mp z.2.2⟩, fun z => ⟨z.1, z.2.1, (h2 z.1 z.2.1).mpr z.2.2⟩⟩
  rw [iteR_e e1, iteR_e e2]
section MXR
variable {d : Nat} {M : mm_M}
theorem lx_ne {i j a b : Nat} (h : ¬ (a = i ∧ b = j)) : lx i (j + 1) a b ↔ lx i j a b := by
  unfold lx
  omega
set_option maxRecDepth 100000 in
theorem mxr_j {i r W K : Nat} {v1 : Int32} {Z : Nat → Nat → R4} {Pp : am_Q} {X : am_X} (hX : am_K (d + 2) false nm_X12_mixMeasured Pp X) (hW : W ≤ 3) (hr : r < W) (hK : K ≤ 120) (e88 : M.1 108 88 = nI W) (hb : ∀ a b a' b', a < 2 ^ W → b < 2 ^ W → a' < 2 ^ W → b' < 2 ^ W → bd (ra (Z a b) (Z a' b'))) (hi : i < 2 ^ W) (hE : ∀ N l5, moF M N → ceS N W K (m2R (2 ^ r) Z (i + 1) 0) → X 185 [some (aR 108), some (aI v1), some (aI 1), some (aI (nI (2 ^ r))), some (aI (nI i)), l5] [] N) : ∀ w j N, j + w = 2 ^ W → moF M N → ceS N W K (m2R (2 ^ r) Z i j) → X 86 [some (aR 108), some (aI v1), some (aI 1), some (aI (nI (2 ^ r))), some (aI (nI i)), some (aI (nI j))] [] N := by
  have w8 : 2 ^ W ≤ 8 := (Nat.pow_le_pow_right (n := 2) (by decide) hW : 2 ^ W ≤ 2 ^ 3)
  intro w
  induction w with
  | zero =>
    intro j N hj hf h
    have hj : j = 2 ^ W := by omega
    subst hj
    refine am_run hX 6 _ _ _ _ ?_
    conv => whnf
    rw [hf.1, e88, sh2 W (by omega)]
    refine ⟨fun _ => hE N _ hf fun a b ha hb' => ?_, fun c => absurd (nI_le (by omega) (by omega)) c⟩
    have e : m2R (2 ^ r) Z (i + 1) 0 a b = m2R (2 ^ r) Z i (2 ^ W) a b := m2R_e (fun _ _ => by unfold lx; omega) (fun _ q => by
      have := (or_f hW hr hb').2.2.2 q
      have l : b ^^^ 2 ^ r < 2 ^ W := by
        have z := Nat.xor_lt_two_pow (n := W) hb' (Nat.pow_lt_pow_right (a := 2) (by decide) hr)
        exact z
      unfold lx
      omega)
    rw [e]
    exact h a b ha hb'
  | succ w ih =>
    intro j N hj hf h
    have hj' : j < 2 ^ W := by omega
    have ali : i &&& 2 ^ r < 8 := Nat.lt_of_le_of_lt Nat.and_le_left (by omega)
    have alj : j &&& 2 ^ r < 8 := Nat.lt_of_le_of_lt Nat.and_le_left (by omega)
    obtain ⟨p1, p2, p3, p4⟩ := or_f hW hr hi
    obtain ⟨q1, q2, q3, q4⟩ := or_f hW hr hj'
    refine am_run hX 6 _ _ _ _ ?_
    conv => whnf
    rw [hf.1, e88, sh2 W (by omega)]
    refine ⟨fun c => absurd c (nI_ge (by omega) (by omega)), fun _ => ?_⟩
    have go : ∀ N', moF M N' → ceS N' W K (m2R (2 ^ r) Z i (j + 1)) → X 179 [some (aR 108), some (aI v1), some (aI 1), some (aI (nI (2 ^ r))), some (aI (nI i)), some (aI (nI j))] [] N' := fun N' f' h' => by
      refine am_run hX 2 _ _ _ _ ?_
      conv => whnf
      rw [nI_1]
      exact ih (j + 1) N' (by omega) f' h'
    have skip : ¬ (i &&& 2 ^ r = 0 ∧ j &&& 2 ^ r = 0) → ceS N W K (m2R (2 ^ r) Z i (j + 1)) := fun nz a b ha hb' => by
      have e : m2R (2 ^ r) Z i (j + 1) a b = m2R (2 ^ r) Z i j a b := m2R_e (fun z1 z2 => lx_ne fun q => nz ⟨by rw [← q.1]; exact z1, by rw [← q.2]; exact z2⟩) (fun z1 z2 => lx_ne fun q => nz ⟨by rw [← q.1]; exact ((or_f hW hr ha).2.2.2 z1).1, by rw [← q.2]; exact ((or_f hW hr hb').2.2.2 z2).1⟩)
      rw [e]
      exact h a b ha hb'
    refine am_run hX 4 _ _ _ _ ?_
    conv => whnf
    rw [nI_and]
    by_cases c1 : i &&& 2 ^ r = 0
    · refine ⟨fun z => absurd (by rw [c1]; rfl) z, fun _ => ?_⟩
      refine am_run hX 4 _ _ _ _ ?_
      conv => whnf
      rw [nI_and]
      by_cases c2 : j &&& 2 ^ r = 0
      · refine ⟨fun _ => ?_, fun z => absurd (by rw [c2]; rfl) z⟩
        have nlx : ¬ lx i j i j := by unfold lx; omega
        have v1 := h i j hi hj'
        have v2 := h (i ||| 2 ^ r) (j ||| 2 ^ r) p1 q1
        rw [m2R_3 (fun z => nlx z.2.2) (fun z => z.1 c1)] at v1
        rw [m2R_3 (fun z => p2 z.1) (fun z => nlx (by have := z.2.2; rw [p3 c1, q3 c2] at this; exact this))] at v2
        have vx := vr_ra (vr_red K (Z i j)) (vr_red K (Z (i ||| 2 ^ r) (j ||| 2 ^ r)))
        have ex := vr_u vx
        have l1 := (vr_red K (Z i j)).1
        have l2 := (vr_red K (Z (i ||| 2 ^ r) (j ||| 2 ^ r))).1
        refine am_run hX 6 _ _ _ _ ?_
        conv => whnf
        refine am_c1 (ct_cell (d := d + 1) i j) ?_
        conv => whnf
        refine am_run hX 1 _ _ _ _ ?_
        conv => whnf
        refine am_c0 (ct_ld162 (d := d + 1) (by omega) v1) ?_
        conv => whnf
        refine am_run hX 10 _ _ _ _ ?_
        conv => whnf
        rw [nI_or, nI_or]
        refine am_c1 (ct_cell (d := d + 1) _ _) ?_
        conv => whnf
        refine am_run hX 2 _ _ _ _ ?_
        conv => whnf
        refine am_c0 (ct_add162p (d := d) (M := N) (a := 5 * (8 * (i ||| 2 ^ r) + (j ||| 2 ^ r))) (by omega) (by omega) (by omega) v2 (vr_bd vx (hb _ _ _ _ hi hj' p1 q1))) ?_
        rw [ex]
        conv => whnf
        refine am_run hX 6 _ _ _ _ ?_
        conv => whnf
        refine am_c1 (ct_cell (d := d + 1) i j) ?_
        conv => whnf
        refine am_run hX 1 _ _ _ _ ?_
        conv => whnf
        refine am_c0 (ct_store162 (d := d + 1) (by omega)) ?_
        conv => whnf
        refine am_run hX 8 _ _ _ _ ?_
        conv => whnf
        rw [nI_or, nI_or]
        refine am_c1 (ct_cell (d := d + 1) _ _) ?_
        conv => whnf
        refine am_run hX 1 _ _ _ _ ?_
        conv => whnf
        refine am_cq (ct_clrC (d := d + 1) (a := 5 * (8 * (i ||| 2 ^ r) + (j ||| 2 ^ r))) (by omega)) ?_
        rintro t N1 ⟨rfl, f1, z1, z2⟩
        refine ⟨_, rfl, ?_⟩
        conv => whnf
        refine go N1 (moF_t hf (moF_t (moF_l (by omega)) (moF_t (moF_l (by omega)) (moF_t (moF_l (by omega)) f1)))) fun a b ha hb' => ?_
        have far : ¬ (i = i ||| 2 ^ r) := fun z => p2 (by rw [← z]; exact c1)
        by_cases k1 : a = i ∧ b = j
        · rw [k1.1, k1.2, m2R_1 ⟨c1, c2, by unfold lx; omega⟩]
          refine at5_e (fun q s1 s2 => z2 q (by omega)) ?_
          rw [mm_l2, mm_l2]
          exact at_sv _ _ _ _ _
        · by_cases k2 : a = i ||| 2 ^ r ∧ b = j ||| 2 ^ r
          · rw [k2.1, k2.2, m2R_2 ⟨p2, q2, by rw [p3 c1, q3 c2]; unfold lx; omega⟩, red_0]
            exact z1
          · have e : m2R (2 ^ r) Z i (j + 1) a b = m2R (2 ^ r) Z i j a b := m2R_e (fun _ _ => lx_ne k1) (fun y1 y2 => lx_ne fun q => k2 ⟨by rw [← q.1]; exact ((or_f hW hr ha).2.2.2 y1).2.symm, by rw [← q.2]; exact ((or_f hW hr hb').2.2.2 y2).2.symm⟩)
            rw [e]
            refine at5_e (fun q s1 s2 => ?_) (h a b ha hb')
            rw [z2 q (by omega), mm_l2]
            unfold sv
            rw [if_neg (by omega)]
            rfl
      · refine ⟨fun z => absurd ((nI_eq (b := 0) (by omega) (by decide)).mp z) c2, fun _ => ?_⟩
        refine am_run hX 1 _ _ _ _ ?_
        conv => whnf
        exact go N hf (skip fun z => c2 z.2)
    · exact ⟨fun _ => go N hf (skip fun z => c1 z.1), fun z => absurd (fun q => c1 ((nI_eq (b := 0) (by omega) (by decide)).mp q)) z⟩
set_option maxRecDepth 100000 in
theorem mxr_i {r W K : Nat} {v1 : Int32} {Z : Nat → Nat → R4} {Pp : am_Q} {X : am_X} (hX : am_K (d + 2) false nm_X12_mixMeasured Pp X) (hW : W ≤ 3) (hr : r < W) (hK : K ≤ 120) (e88 : M.1 108 88 = nI W) (hb : ∀ a b a' b', a < 2 ^ W → b < 2 ^ W → a' < 2 ^ W → b' < 2 ^ W → bd (ra (Z a b) (Z a' b'))) (hE : ∀ N, moF M N → ceS N W K (m2R (2 ^ r) Z (2 ^ W) 0) → Pp (.inl none) N) : ∀ w i N l5, i + w = 2 ^ W → moF M N → ceS N W K (m2R (2 ^ r) Z i 0) → X 68 [some (aR 108), some (aI v1), some (aI 1), some (aI (nI (2 ^ r))), some (aI (nI i)), l5] [] N := by
  have w8 : 2 ^ W ≤ 8 := (Nat.pow_le_pow_right (n := 2) (by decide) hW : 2 ^ W ≤ 2 ^ 3)
  intro w
  induction w with
  | zero =>
    intro i N l5 hi hf h
    have hi : i = 2 ^ W := by omega
    subst hi
    refine am_run hX 6 _ _ _ _ ?_
    conv => whnf
    rw [hf.1, e88, sh2 W (by omega)]
    refine ⟨fun _ => ?_, fun c => absurd (nI_le (by omega) (by omega)) c⟩
    refine am_run hX 1 _ _ _ _ ?_
    conv => whnf
    exact ⟨trivial, hE N hf h⟩
  | succ w ih =>
    intro i N l5 hi hf h
    refine am_run hX 6 _ _ _ _ ?_
    conv => whnf
    rw [hf.1, e88, sh2 W (by omega)]
    refine ⟨fun c => absurd c (nI_ge (by omega) (by omega)), fun _ => ?_⟩
    refine am_run hX 2 _ _ _ _ ?_
    conv => whnf
    refine ⟨fun c => absurd c (by decide), fun _ => ?_⟩
    refine am_run hX 2 _ _ _ _ ?_
    conv => whnf
    refine mxr_j (d := d) (M := M) hX hW hr hK e88 hb (by omega) (fun N1 l5 f1 h1 => ?_) (2 ^ W) 0 N (by omega) hf h
    refine am_run hX 2 _ _ _ _ ?_
    conv => whnf
    rw [nI_1]
    exact ih (i + 1) N1 _ (by omega) f1 h1
end MXR
