/-! mix, the reference: measured -/
section MXM
variable {d : Nat} {M : mm_M} {g : Nat → Int64}
set_option maxRecDepth 100000 in
theorem ad_l162 {P : am_Q} {X : am_X} {a : Nat} {s : Int32} (hX : am_K d false nm_X12_add P X) (ha : a + 5 ≤ 320) (hP : X 28 [some (aR 108), some (aR 162), some (aI (nI a)), some (aI s), some (aI (nI 5))] [] (mm_l M 119 (fun j => if j < 5 then M.2 162 (a + j) else M.2 119 j))) : ∀ (m i : Nat), i + m = 5 → X 3 [some (aR 108), some (aR 162), some (aI (nI a)), some (aI s), some (aI (nI i))] [] (mm_l M 119 (fun j => if j < i then M.2 162 (a + j) else M.2 119 j)) := by
  intro m
  induction m with
  | zero =>
    intro i hi
    have hi : i = 5 := by omega
    subst hi
    refine am_run hX 3 _ _ _ _ ?_
    conv => whnf
    refine ⟨fun _ => ?_, fun c => absurd (by decide) c⟩
    exact hP
  | succ m ih =>
    intro i hi
    refine am_run hX 3 _ _ _ _ ?_
    conv => whnf
    refine ⟨fun c => absurd c (nI_ge (a := i) (b := 5) (by omega) (by decide)), fun _ => ?_⟩
    refine am_run hX 11 _ _ _ _ ?_
    conv => whnf
    rw [nI_add]
    refine ⟨vp_in_nI (by show _ < 320; omega) (by decide), ?_⟩
    conv => whnf
    refine ⟨vp_in_nI (by show _ < 5; omega) (by decide), ?_⟩
    conv => whnf
    rw [nI_clamp (n := i) (by omega), nI_clamp (n := a + i) (by omega), nI_1, mm_l2, mm_ll, mm_lne _ 119 162 _ (by decide)]
    have e : vp_updL (fun j => if j < i then M.2 162 (a + j) else M.2 119 j) i (M.2 162 (a + i)) = fun j => if j < i + 1 then M.2 162 (a + j) else M.2 119 j := by
      funext j
      unfold vp_updL
      by_cases h : j = i
      · rw [if_pos h, if_pos (by omega), h]
      · rw [if_neg h]
        dsimp only
        by_cases h2 : j < i
        · rw [if_pos h2, if_pos (by omega)]
        · rw [if_neg h2, if_neg (by omega)]
    rw [e]
    exact ih (i + 1) (by omega)
set_option maxRecDepth 100000 in
theorem ct_add162p {a k l : Nat} {x y : R4} (ha : a + 5 ≤ 320) (hk : k < 2 ^ 30) (hl : l < 2 ^ 30) (h : at5 (M.2 162) a y l) (hb : bd (rsum k x l (y))) : am_M (d + 2) false nm_X12_add [aR 108, aR 162, aI (nI a), aI 1] (mm_l M 118 (ov g x k)) (am_q0 (mm_l (mm_l M 119 (ov (M.2 119) (rn (max k l - l) y) (max k l))) 118 (ov g (red (max k l) (rsum k x l (y))).1 (red (max k l) (rsum k x l (y))).2))) := by
  obtain ⟨h0, h1, h2, h3, h4⟩ := h
  have em : max l k = max k l := Nat.max_comm l k
  have em2 : max k (max l k) = max k l := by omega
  refine ⟨rfl, rfl, rfl, fun X hX => am_run hX 2 _ _ _ _ ?_⟩
  conv => whnf
  have key := ad_l162 (M := mm_l M 118 (ov g x k)) (a := a) (s := 1) hX ha ?_ 5 0 (by omega)
  · have e : (fun j => if j < 0 then (mm_l M 118 (ov g x k)).2 162 (a + j) else (mm_l M 118 (ov g x k)).2 119 j) = (mm_l M 118 (ov g x k)).2 119 := by
      funext j
      rw [if_neg (by omega)]
    rw [e, mm_lz] at key
    exact key
  · rw [mm_lne _ 118 162 _ (by decide), mm_lne _ 118 119 _ (by decide), ov_of (g := M.2 119) h0 h1 h2 h3 h4]
    refine am_run hX 200 _ _ _ _ ?_
    conv => whnf
    refine ⟨by first | exact i5_0 | exact i5_1 | exact i5_2 | exact i5_3 | exact i5_4 | exact i5_01 | exact i5_02 | exact i5_03 | exact i5_04 | exact i4_0 | exact i4_1 | exact i4_2 | exact i4_3 | exact i5_11 | exact i5_111 | decide, ?_⟩
    conv => whnf
    simp only [k_4, mm_lne _ 119 118 _ (by decide), mm_l2, ov_4]
    refine am_c0 (ct_raise119 (d := d) (p := k) (by omega) (by omega)) ?_
    try simp only [List.drop_succ_cons, List.drop_zero, List.append_eq, List.nil_append, List.append_nil]
    conv => whnf
    refine ⟨by first | exact i5_0 | exact i5_1 | exact i5_2 | exact i5_3 | exact i5_4 | exact i5_01 | exact i5_02 | exact i5_03 | exact i5_04 | exact i4_0 | exact i4_1 | exact i4_2 | exact i4_3 | exact i5_11 | exact i5_111 | decide, ?_⟩
    conv => whnf
    simp only [k_4, mm_l2, ov_4]
    rw [mm_lc M 118 119 _ _ (by decide)]
    refine am_c0 (ct_raise118 (d := d) (p := max l k) (by omega) (by omega)) ?_
    try simp only [List.drop_succ_cons, List.drop_zero, List.append_eq, List.nil_append, List.append_nil]
    rw [em2, em]
    conv => whnf
    refine ⟨fun c => absurd c (by decide), fun _ => ?_⟩
    conv => whnf
    refine ⟨by first | exact i5_0 | exact i5_1 | exact i5_2 | exact i5_3 | exact i5_4 | exact i5_01 | exact i5_02 | exact i5_03 | exact i5_04 | exact i4_0 | exact i4_1 | exact i4_2 | exact i4_3 | exact i5_11 | exact i5_111 | decide, ?_⟩
    conv => whnf
    refine ⟨by first | exact i5_0 | exact i5_1 | exact i5_2 | exact i5_3 | exact i5_4 | exact i5_01 | exact i5_02 | exact i5_03 | exact i5_04 | exact i4_0 | exact i4_1 | exact i4_2 | exact i4_3 | exact i5_11 | exact i5_111 | decide, ?_⟩
    conv => whnf
    refine ⟨by first | exact i5_0 | exact i5_1 | exact i5_2 | exact i5_3 | exact i5_4 | exact i5_01 | exact i5_02 | exact i5_03 | exact i5_04 | exact i4_0 | exact i4_1 | exact i4_2 | exact i4_3 | exact i5_11 | exact i5_111 | decide, ?_⟩
    conv => whnf
    refine ⟨fun c => absurd c (by decide), fun _ => ?_⟩
    conv => whnf
    refine ⟨by first | exact i5_0 | exact i5_1 | exact i5_2 | exact i5_3 | exact i5_4 | exact i5_01 | exact i5_02 | exact i5_03 | exact i5_04 | exact i4_0 | exact i4_1 | exact i4_2 | exact i4_3 | exact i5_11 | exact i5_111 | decide, ?_⟩
    conv => whnf
    refine ⟨by first | exact i5_0 | exact i5_1 | exact i5_2 | exact i5_3 | exact i5_4 | exact i5_01 | exact i5_02 | exact i5_03 | exact i5_04 | exact i4_0 | exact i4_1 | exact i4_2 | exact i4_3 | exact i5_11 | exact i5_111 | decide, ?_⟩
    conv => whnf
    refine ⟨by first | exact i5_0 | exact i5_1 | exact i5_2 | exact i5_3 | exact i5_4 | exact i5_01 | exact i5_02 | exact i5_03 | exact i5_04 | exact i4_0 | exact i4_1 | exact i4_2 | exact i4_3 | exact i5_11 | exact i5_111 | decide, ?_⟩
    conv => whnf
    refine ⟨fun c => absurd c (by decide), fun _ => ?_⟩
    conv => whnf
    refine ⟨by first | exact i5_0 | exact i5_1 | exact i5_2 | exact i5_3 | exact i5_4 | exact i5_01 | exact i5_02 | exact i5_03 | exact i5_04 | exact i4_0 | exact i4_1 | exact i4_2 | exact i4_3 | exact i5_11 | exact i5_111 | decide, ?_⟩
    conv => whnf
    refine ⟨by first | exact i5_0 | exact i5_1 | exact i5_2 | exact i5_3 | exact i5_4 | exact i5_01 | exact i5_02 | exact i5_03 | exact i5_04 | exact i4_0 | exact i4_1 | exact i4_2 | exact i4_3 | exact i5_11 | exact i5_111 | decide, ?_⟩
    conv => whnf
    refine ⟨by first | exact i5_0 | exact i5_1 | exact i5_2 | exact i5_3 | exact i5_4 | exact i5_01 | exact i5_02 | exact i5_03 | exact i5_04 | exact i4_0 | exact i4_1 | exact i4_2 | exact i4_3 | exact i5_11 | exact i5_111 | decide, ?_⟩
    conv => whnf
    refine ⟨fun c => absurd c (by decide), fun _ => ?_⟩
    conv => whnf
    refine ⟨by first | exact i5_0 | exact i5_1 | exact i5_2 | exact i5_3 | exact i5_4 | exact i5_01 | exact i5_02 | exact i5_03 | exact i5_04 | exact i4_0 | exact i4_1 | exact i4_2 | exact i4_3 | exact i5_11 | exact i5_111 | decide, ?_⟩
    conv => whnf
    refine ⟨by first | exact i5_0 | exact i5_1 | exact i5_2 | exact i5_3 | exact i5_4 | exact i5_01 | exact i5_02 | exact i5_03 | exact i5_04 | exact i4_0 | exact i4_1 | exact i4_2 | exact i4_3 | exact i5_11 | exact i5_111 | decide, ?_⟩
    conv => whnf
    refine ⟨by first | exact i5_0 | exact i5_1 | exact i5_2 | exact i5_3 | exact i5_4 | exact i5_01 | exact i5_02 | exact i5_03 | exact i5_04 | exact i4_0 | exact i4_1 | exact i4_2 | exact i4_3 | exact i5_11 | exact i5_111 | decide, ?_⟩
    conv => whnf
    refine ⟨fun _ => ?_, fun c => absurd (by decide) c⟩
    conv => whnf
    simp only [mm_l2, mm_ll, mm_lne _ 118 119 _ (by decide), k_0, k_1, k_2, k_3, k_4, k0_1, k0_2, k0_3, k0_4, k0_11, k0_111, ov_0, ov_1, ov_2, ov_3, ov_4, s_p, s_m, lI_mul, Int.one_mul, lI_add, ov_u0, ov_u1, ov_u2, ov_u3]
    refine am_c0 (ct_red (d := d) (M := mm_l M 119 (ov (M.2 119) (rn (max k l - l) y) (max k l))) (g := g) (x := rsum k x l y) (k := max k l) (by omega) hb) ?_
    conv => whnf
    exact ⟨trivial, rfl, rfl⟩
def moF (M N : mm_M) : Prop := N.1 = M.1 ∧ ∀ c, c ≠ 118 → c ≠ 119 → c ≠ 162 → N.2 c = M.2 c
theorem moF_t {M N K : mm_M} (h : moF M N) (h' : moF N K) : moF M K := ⟨h'.1.trans h.1, fun c a b e => (h'.2 c a b e).trans (h.2 c a b e)⟩
theorem moF_r (M : mm_M) : moF M M := ⟨rfl, fun _ _ _ _ => rfl⟩
theorem moF_l {N : mm_M} {c : Nat} {f : Nat → Int64} (h : c = 118 ∨ c = 119 ∨ c = 162) : moF N (mm_l N c f) := ⟨rfl, fun k a b e => if_neg (by omega)⟩
set_option maxRecDepth 100000 in
theorem clC_l {a : Nat} {Pp : am_Q} {X : am_X} (hX : am_K d false nm_X12_clearCell Pp X) (ha : a + 5 ≤ 320) (hE : Pp (.inl none) (mm_l M 162 (fun j => if a ≤ j ∧ j < a + 5 then 0 else M.2 162 j))) : ∀ m p, p + m = 5 → X 2 [some (aR 108), some (aI (nI a)), some (aI (nI p))] [] (mm_l M 162 (fun j => if a ≤ j ∧ j < a + p then 0 else M.2 162 j)) := by
  intro m
  induction m with
  | zero =>
    intro p hp
    have hp : p = 5 := by omega
    subst hp
    refine am_run hX 3 _ _ _ _ ?_
    conv => whnf
    refine ⟨fun _ => ?_, fun c => absurd (by decide) c⟩
    refine am_run hX 1 _ _ _ _ ?_
    conv => whnf
    exact ⟨trivial, hE⟩
  | succ m ih =>
    intro p hp
    refine am_run hX 3 _ _ _ _ ?_
    conv => whnf
    refine ⟨fun c => absurd c (nI_ge (b := 5) (by omega) (by decide)), fun _ => ?_⟩
    refine am_run hX 9 _ _ _ _ ?_
    conv => whnf
    rw [nI_add]
    refine ⟨vp_in_nI (by show a + p < 320; omega) (by decide), ?_⟩
    conv => whnf
    rw [nI_clamp (n := a + p) (by omega), mm_l2, mm_ll, nI_1]
    have e : vp_updL (fun j => if a ≤ j ∧ j < a + p then 0 else M.2 162 j) (a + p) 0 = fun j => if a ≤ j ∧ j < a + (p + 1) then 0 else M.2 162 j := by
      funext j
      unfold vp_updL
      by_cases h : j = a + p
      · rw [if_pos h, if_pos (by omega)]
      · rw [if_neg h]
        dsimp only
        by_cases h2 : a ≤ j ∧ j < a + p
        · rw [if_pos h2, if_pos (by omega)]
        · rw [if_neg h2, if_neg (by omega)]
    rw [e]
    exact ih (p + 1) (by omega)
set_option maxRecDepth 100000 in
theorem ct_clrC {a : Nat} (ha : a + 5 ≤ 320) : am_M (d + 1) false nm_X12_clearCell [aR 108, aI (nI a)] M (fun r N => r = .inl none ∧ moF M N ∧ at5 (N.2 162) a (0, 0, 0, 0) 0 ∧ ∀ q, (q < a ∨ a + 5 ≤ q) → N.2 162 q = M.2 162 q) := by
  refine ⟨rfl, rfl, rfl, fun X hX => am_run hX 2 _ _ _ _ ?_⟩
  conv => whnf
  have key := clC_l (M := M) (a := a) hX ha ?_ 5 0 (by omega)
  · have e : (fun j => if a ≤ j ∧ j < a + 0 then 0 else M.2 162 j) = M.2 162 := by
      funext j
      rw [if_neg (by omega)]
    rw [e, mm_lz] at key
    exact key
  · refine ⟨rfl, moF_l (by omega), ?_, fun q hq => ?_⟩
    · rw [mm_l2]
      exact ⟨if_pos (by omega), if_pos (by omega), if_pos (by omega), if_pos (by omega), if_pos (by omega)⟩
    · rw [mm_l2]
      exact if_neg (by omega)
/-- the cells by a function -/
def ceS (N : mm_M) (W K : Nat) (Y : Nat → Nat → R4) : Prop := ∀ a b, a < 2 ^ W → b < 2 ^ W → at5 (N.2 162) (5 * (8 * a + b)) (red K (Y a b)).1 (red K (Y a b)).2
/-- ahead of (i, j) -/
def lx (i j a b : Nat) : Prop := a < i ∨ a = i ∧ b < j
noncomputable def iteR (p : Prop) (x y : R4) : R4 := @ite R4 p (Classical.propDecidable p) x y
theorem iteR_t {p : Prop} {x y : R4} (h : p) : iteR p x y = x := @if_pos p (Classical.propDecidable p) h R4 x y
theorem iteR_f {p : Prop} {x y : R4} (h : ¬ p) : iteR p x y = y := @if_neg p (Classical.propDecidable p) h R4 x y
theorem iteR_e {p q : Prop} {x y : R4} (h : p ↔ q) : iteR p x y = iteR q x y := by rw [propext h]
noncomputable def m1R (m : Nat) (Y : Nat → Nat → R4) (i j a b : Nat) : R4 := iteR (lx i j a b ∧ ¬ (a ^^^ b) &&& m = 0) (0, 0, 0, 0) (Y a b)
set_option maxRecDepth 100000 in
theorem mm_j {i m W K : Nat} {v1 v2 : Int32} {Y : Nat → Nat → R4} {Pp : am_Q} {X : am_X} (hX : am_K (d + 1) false nm_X12_mixMeasured Pp X) (hW : W ≤ 3) (hm : m < 8) (e88 : M.1 108 88 = nI W) (hi : i < 2 ^ W) (hE : ∀ N l5, moF M N → ceS N W K (m1R m Y (i + 1) 0) → X 59 [some (aR 108), some (aI v1), some (aI v2), some (aI (nI m)), some (aI (nI i)), l5] [] N) : ∀ w j N, j + w = 2 ^ W → moF M N → ceS N W K (m1R m Y i j) → X 21 [some (aR 108), some (aI v1), some (aI v2), some (aI (nI m)), some (aI (nI i)), some (aI (nI j))] [] N := by
  have w8 : 2 ^ W ≤ 8 := (Nat.pow_le_pow_right (n := 2) (by decide) hW : 2 ^ W ≤ 2 ^ 3)
  intro w
  induction w with
  | zero =>
    intro j N hj hf h
    have hj : j = 2 ^ W := by omega
    subst hj
    refine am_run hX 6 _ _ _ _ ?_
    conv => whnf
    rw [hf.1, e88, sh2 W (by omega)]
    refine ⟨fun _ => hE N _ hf fun a b ha hb => ?_, fun c => absurd (nI_le (by omega) (by omega)) c⟩
    have e : m1R m Y (i + 1) 0 a b = m1R m Y i (2 ^ W) a b := iteR_e (by unfold lx; omega)
    rw [e]
    exact h a b ha hb
  | succ w ih =>
    intro j N hj hf h
    have al : (i ^^^ j) &&& m < 8 := Nat.lt_of_le_of_lt Nat.and_le_right hm
    refine am_run hX 6 _ _ _ _ ?_
    conv => whnf
    rw [hf.1, e88, sh2 W (by omega)]
    refine ⟨fun c => absurd c (nI_ge (by omega) (by omega)), fun _ => ?_⟩
    have go : ∀ N', moF M N' → ceS N' W K (m1R m Y i (j + 1)) → X 53 [some (aR 108), some (aI v1), some (aI v2), some (aI (nI m)), some (aI (nI i)), some (aI (nI j))] [] N' := fun N' f' h' => by
      refine am_run hX 2 _ _ _ _ ?_
      conv => whnf
      rw [nI_1]
      exact ih (j + 1) N' (by omega) f' h'
    refine am_run hX 6 _ _ _ _ ?_
    conv => whnf
    rw [nI_xor, nI_and]
    by_cases c : (i ^^^ j) &&& m = 0
    · refine ⟨fun _ => go N hf fun a b ha hb => ?_, fun z => absurd (by rw [c]; rfl) z⟩
      by_cases q : a = i ∧ b = j
      · have e1 : m1R m Y i (j + 1) a b = Y a b := iteR_f fun z => z.2 (by rw [q.1, q.2]; exact c)
        have e2 : m1R m Y i j a b = Y a b := iteR_f fun z => z.2 (by rw [q.1, q.2]; exact c)
        have := h a b ha hb
        rw [e2] at this
        rw [e1]
        exact this
      · have e : m1R m Y i (j + 1) a b = m1R m Y i j a b := iteR_e (by
          have : lx i (j + 1) a b ↔ lx i j a b := by unfold lx; omega
          rw [this])
        rw [e]
        exact h a b ha hb
    · refine ⟨fun z => absurd ((nI_eq (b := 0) (by omega) (by decide)).mp z) c, fun _ => ?_⟩
      refine am_run hX 4 _ _ _ _ ?_
      conv => whnf
      refine am_c1 (ct_cell (d := d) i j) ?_
      conv => whnf
      refine am_run hX 1 _ _ _ _ ?_
      conv => whnf
      refine am_cq (ct_clrC (d := d) (a := 5 * (8 * i + j)) (by omega)) ?_
      rintro r N1 ⟨rfl, f1, z1, z2⟩
      refine ⟨_, rfl, ?_⟩
      conv => whnf
      refine go N1 (moF_t hf f1) fun a b ha hb => ?_
      by_cases q : a = i ∧ b = j
      · have e1 : m1R m Y i (j + 1) a b = (0, 0, 0, 0) := iteR_t ⟨by unfold lx; omega, by rw [q.1, q.2]; exact c⟩
        rw [e1, red_0, q.1, q.2]
        exact z1
      · have e : m1R m Y i (j + 1) a b = m1R m Y i j a b := iteR_e (by
          have : lx i (j + 1) a b ↔ lx i j a b := by unfold lx; omega
          rw [this])
        rw [e]
        exact at5_e (fun p p1 p2 => z2 p (by omega)) (h a b ha hb)
set_option maxRecDepth 100000 in
theorem mm_i1' {m W K : Nat} {v1 v2 : Int32} {Y : Nat → Nat → R4} {Pp : am_Q} {X : am_X} (hX : am_K (d + 1) false nm_X12_mixMeasured Pp X) (hW : W ≤ 3) (hm : m < 8) (e88 : M.1 108 88 = nI W) (hE : ∀ N l4 l5, moF M N → ceS N W K (m1R m Y (2 ^ W) 0) → X 65 [some (aR 108), some (aI v1), some (aI v2), some (aI (nI m)), l4, l5] [] N) : ∀ w i N l5, i + w = 2 ^ W → moF M N → ceS N W K (m1R m Y i 0) → X 7 [some (aR 108), some (aI v1), some (aI v2), some (aI (nI m)), some (aI (nI i)), l5] [] N := by
  have w8 : 2 ^ W ≤ 8 := (Nat.pow_le_pow_right (n := 2) (by decide) hW : 2 ^ W ≤ 2 ^ 3)
  intro w
  induction w with
  | zero =>
    intro i N l5 hi hf h
    have hi : i = 2 ^ W := by omega
    subst hi
    refine am_run hX 6 _ _ _ _ ?_
    conv => whnf
    rw [hf.1, e88, sh2 W (by omega)]
    exact ⟨fun _ => hE N _ _ hf h, fun c => absurd (nI_le (by omega) (by omega)) c⟩
  | succ w ih =>
    intro i N l5 hi hf h
    refine am_run hX 6 _ _ _ _ ?_
    conv => whnf
    rw [hf.1, e88, sh2 W (by omega)]
    refine ⟨fun c => absurd c (nI_ge (by omega) (by omega)), fun _ => ?_⟩
    refine am_run hX 2 _ _ _ _ ?_
    conv => whnf
    refine mm_j (d := d) (M := M) hX hW hm e88 (by omega) (fun N1 l5 f1 h1 => ?_) (2 ^ W) 0 N (by omega) hf h
    refine am_run hX 2 _ _ _ _ ?_
    conv => whnf
    rw [nI_1]
    exact ih (i + 1) N1 _ (by omega) f1 h1
end MXM
