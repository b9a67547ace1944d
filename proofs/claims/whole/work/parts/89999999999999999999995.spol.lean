/-! spoil, the reference: all cells -/
theorem vr_q {K l : Nat} {X y : R4} (q : Nat) (h : vr K X l y) : vr (K + q) X (l + q) y := ⟨by have := h.1; omega, by rw [show K + q - (l + q) = K - l by omega]; exact h.2⟩
section SPL
variable {d : Nat} {M : mm_M}
set_option maxRecDepth 100000 in
theorem sc_e {K i j y : Nat} {v1 v3 : Int32} {l7 : Option am_V} {Z : R4} {Pp : am_Q} {X : am_X} (hX : am_K (d + 4) false nm_X12_spoil Pp X) (hK : K ≤ 120) (hi : i < 8) (hj : j < 8) (hy : y < 4) (bZ : bd Z) (hz : at5 (M.2 163) (5 * (8 * i + j)) (red K Z).1 (red K Z).2) (hE : ∀ N, soF M N → at5 (N.2 163) (5 * (8 * i + j)) (red (K + spQ y) Z).1 (red (K + spQ y) Z).2 → (∀ q, (q < 5 * (8 * i + j) ∨ 5 * (8 * i + j) + 5 ≤ q) → N.2 163 q = M.2 163 q) → X 250 [some (aR 108), some (aI v1), some (aI (nI y)), some (aI v3), some (aI (nI i)), some (aI (nI j)), some (aI (nI (5 * (8 * i + j)))), l7] [] N) : X 192 [some (aR 108), some (aI v1), some (aI (nI y)), some (aI v3), some (aI (nI i)), some (aI (nI j)), some (aI (nI (5 * (8 * i + j)))), l7] [] M := by
  have vz := vr_red K Z
  have l1 := vz.1
  have vb := vr_bd vz bZ
  have q12 : spQ y ≤ 12 := by
    unfold spQ
    by_cases c : y = 0
    · rw [if_pos c]; decide
    · rw [if_neg c]; decide
  have ha : 5 * (8 * i + j) + 5 ≤ 320 := by omega
  refine am_run hX 5 _ _ _ _ ?_
  conv => whnf
  refine am_c0 (ct_ld163 (d := d + 3) ha hz) ?_
  conv => whnf
  have k231 : ∀ l, l < 2 ^ 30 → red l (red K Z).1 = red (K + spQ y) Z → X 231 [some (aR 108), some (aI v1), some (aI (nI y)), some (aI v3), some (aI (nI i)), some (aI (nI j)), some (aI (nI (5 * (8 * i + j)))), l7] [] (mm_l M 118 (ov (M.2 118) (red K Z).1 l)) := fun l hl e => by
    refine am_run hX 5 _ _ _ _ ?_
    conv => whnf
    refine am_c0 (ct_red (d := d + 3) (by omega) vb) ?_
    rw [e]
    conv => whnf
    refine am_run hX 5 _ _ _ _ ?_
    conv => whnf
    refine am_c0 (ct_store163 (d := d + 3) ha) ?_
    conv => whnf
    refine hE _ (soF_t (soF_l (Or.inl rfl)) (soF_l (Or.inr (Or.inr rfl)))) ?_ fun q hq => ?_
    · rw [mm_l2, mm_l2]
      exact at_sv _ _ _ _ _
    · rw [mm_l2]
      unfold sv
      rw [if_neg (by omega)]
      rfl
  refine am_run hX 2 _ _ _ _ ?_
  conv => whnf
  refine am_c1 (ct_one0 (d := d + 3) vb) ?_
  conv => whnf
  refine am_run hX 1 _ _ _ _ ?_
  conv => whnf
  by_cases c0 : (red K Z).1 = (0, 0, 0, 0)
  · have z0 : Z = (0, 0, 0, 0) := red_nz c0
    rw [if_pos c0]
    refine ⟨fun _ => ?_, fun c => absurd (by decide) c⟩
    refine k231 _ (by omega) ?_
    rw [c0, z0, red_0, red_0]
  · rw [if_neg c0]
    refine ⟨fun c => absurd rfl c, fun _ => ?_⟩
    have h4 : vp_in (4 : Int32) 5 := vp_in_nI (n := 4) (by decide) (by decide)
    have fin : ∀ q : Nat, q = spQ y → X 229 [some (aR 108), some (aI v1), some (aI (nI y)), some (aI v3), some (aI (nI i)), some (aI (nI j)), some (aI (nI (5 * (8 * i + j)))), l7] [aJ (lI q), aJ (lI (red K Z).2), aI 4, aR 118] (mm_l M 118 (ov (M.2 118) (red K Z).1 (red K Z).2)) := fun q hq => by
      refine am_run hX 2 _ _ _ _ ?_
      conv => whnf
      refine ⟨h4, ?_⟩
      conv => whnf
      rw [lI_add, mm_l2, mm_ll, show (4 : Int32).toNatClampNeg = 4 from rfl, show ((red K Z).2 : Int) + (q : Int) = (((red K Z).2 + q : Nat) : Int) from rfl, ov_u4]
      refine k231 _ (by omega) ?_
      rw [hq]
      exact vr_u (vr_q (spQ y) vz)
    refine am_run hX 5 _ _ _ _ ?_
    conv => whnf
    refine ⟨h4, ?_⟩
    conv => whnf
    rw [mm_l2, show (4 : Int32).toNatClampNeg = 4 from rfl, ov_4]
    refine am_run hX 2 _ _ _ _ ?_
    conv => whnf
    by_cases y0 : y = 0
    · refine ⟨fun c => absurd (by rw [y0]; rfl) c, fun _ => ?_⟩
      refine am_run hX 2 _ _ _ _ ?_
      conv => whnf
      exact fin 12 (if_pos y0).symm
    · refine ⟨fun _ => ?_, fun c => absurd (fun z => y0 ((nI_eq (b := 0) (by omega) (by decide)).mp z)) c⟩
      refine am_run hX 1 _ _ _ _ ?_
      conv => whnf
      exact fin 8 (if_neg y0).symm
set_option maxRecDepth 100000 in
theorem sc_c {K i j r y k : Nat} {x x' : R4} {l6 l7 : Option am_V} {Pp : am_Q} {X : am_X} (hX : am_K (d + 4) false nm_X12_spoil Pp X) (hK : K ≤ 120) (hi : i < 8) (hj : j < 8) (hr : r < 3) (hy : y < 4) (hk : k < 17) (bx : bbN 1 x) (bx' : bbN 1 x') (hx : twC M K i j (2 ^ r) x x') (hz : at5 (M.2 163) (5 * (8 * i + j)) (0, 0, 0, 0) 0) (hE : ∀ N l6 l7, soF M N → at5 (N.2 163) (5 * (8 * i + j)) (red (K + spQ y) (zV y k (!decide ((i ^^^ j) &&& 2 ^ r = 0)) x x' 3)).1 (red (K + spQ y) (zV y k (!decide ((i ^^^ j) &&& 2 ^ r = 0)) x x' 3)).2 → (∀ q, (q < 5 * (8 * i + j) ∨ 5 * (8 * i + j) + 5 ≤ q) → N.2 163 q = M.2 163 q) → X 250 [some (aR 108), some (aI (nI r)), some (aI (nI y)), some (aI (nI k)), some (aI (nI i)), some (aI (nI j)), l6, l7] [] N) : X 119 [some (aR 108), some (aI (nI r)), some (aI (nI y)), some (aI (nI k)), some (aI (nI i)), some (aI (nI j)), l6, l7] [] M := by
  have ha : 5 * (8 * i + j) + 5 ≤ 320 := by omega
  have b0 := zV_b (y := y) (df := !decide ((i ^^^ j) &&& 2 ^ r = 0)) hk bx bx' 0
  have b3 := zV_b (y := y) (df := !decide ((i ^^^ j) &&& 2 ^ r = 0)) hk bx bx' 3
  have b1 := bbN_bd (bbN_scl bx (spA_b (y := y) hk)) (by decide)
  refine am_run hX 3 _ _ _ _ ?_
  conv => whnf
  refine am_c1 (ct_cell (d := d + 3) i j) ?_
  conv => whnf
  have k150 : ∀ f : Int32, f.toInt64 = lI (spA y k) → X 150 [some (aR 108), some (aI (nI r)), some (aI (nI y)), some (aI (nI k)), some (aI (nI i)), some (aI (nI j)), some (aI (nI (5 * (8 * i + j)))), l7] [aI f, aI (nI (5 * (8 * i + j))), aI (nI (5 * (8 * i + j))), aR 108] M := fun f hf => by
    refine am_run hX 1 _ _ _ _ ?_
    conv => whnf
    refine am_cq (ct_aSp (d := d + 1) (K := K) (Z := (0, 0, 0, 0)) hf hK ha ha hx.1 (by rw [red_0]; exact hz) b1 (bbN_bd b0 (by decide))) ?_
    rintro r' N1 ⟨rfl, f1, f2, f3⟩
    refine ⟨_, rfl, ?_⟩
    conv => whnf
    refine am_run hX 2 _ _ _ _ ?_
    conv => whnf
    have hx1 : twC N1 K i j (2 ^ r) x x' := by
      unfold twC
      rw [f1.2 162 (by decide) (by decide) (by decide)]
      exact hx
    refine sm_v (d := d) (M := N1) hX hK hi hj hr hy hk bx bx' hx1 (fun N2 l7 g1 g2 g3 => ?_) 3 0 N1 (by omega) ⟨rfl, fun _ _ _ _ => rfl⟩ f2 (fun q _ => rfl)
    refine sc_e (d := d) (M := N2) hX hK hi hj hy (bbN_bd b3 (by decide)) g2 fun N3 h1 h2 h3 => ?_
    exact hE N3 _ _ (soF_t f1 (soF_t g1 h1)) h2 fun q hq => (h3 q hq).trans ((g3 q hq).trans (f3 q hq))
  have eA := spA_i y hy k hk
  refine am_run hX 6 _ _ _ _ ?_
  conv => whnf
  by_cases y0 : y = 0
  · rw [if_pos y0] at eA
    refine ⟨fun c => absurd (by rw [y0]; rfl) c, fun _ => ?_⟩
    refine am_run hX 6 _ _ _ _ ?_
    conv => whnf
    exact k150 _ eA
  · rw [if_neg y0] at eA
    refine ⟨fun _ => ?_, fun c => absurd (fun z => y0 ((nI_eq (b := 0) (by omega) (by decide)).mp z)) c⟩
    refine am_run hX 3 _ _ _ _ ?_
    conv => whnf
    exact k150 _ eA
/-- what lies in the second row behind some cells: done those ahead of (i, j), nothing in the others -/
def soD (N : mm_M) (W K i j : Nat) (Y : Nat → R4) : Prop := (∀ a b, a < 2 ^ W → b < 2 ^ W → (a < i ∨ a = i ∧ b < j) → at5 (N.2 163) (5 * (8 * a + b)) (red K (Y (a + 2 ^ W * b))).1 (red K (Y (a + 2 ^ W * b))).2) ∧ ∀ a b, a < 2 ^ W → b < 2 ^ W → ¬ (a < i ∨ a = i ∧ b < j) → at5 (N.2 163) (5 * (8 * a + b)) (0, 0, 0, 0) 0
theorem at5_e {f h : Nat → Int64} {a k : Nat} {x : R4} (e : ∀ q, a ≤ q → q < a + 5 → h q = f q) (hf : at5 f a x k) : at5 h a x k := by
  unfold at5
  rw [e a (by omega) (by omega), e (a + 1) (by omega) (by omega), e (a + 2) (by omega) (by omega), e (a + 3) (by omega) (by omega), e (a + 4) (by omega) (by omega)]
  exact hf
set_option maxRecDepth 100000 in
theorem so_j {W K i r y k : Nat} {xs : Nat → R4} {Pp : am_Q} {X : am_X} (hX : am_K (d + 4) false nm_X12_spoil Pp X) (hW : W ≤ 3) (hr : r < W) (hK : K ≤ 120) (hy : y < 4) (hk : k < 17) (e88 : M.1 108 88 = nI W) (hb : ∀ c, c < 2 ^ (2 * W) → bbN 1 (xs c)) (hx : ∀ a b, a < 2 ^ W → b < 2 ^ W → at5 (M.2 162) (5 * (8 * a + b)) (red K (xs (a + 2 ^ W * b))).1 (red K (xs (a + 2 ^ W * b))).2) (hi : i < 2 ^ W) (hE : ∀ N l6 l7, soF M N → soD N W (K + spQ y) (i + 1) 0 (spN W r y k xs) → X 256 [some (aR 108), some (aI (nI r)), some (aI (nI y)), some (aI (nI k)), some (aI (nI i)), some (aI (nI (2 ^ W))), l6, l7] [] N) : ∀ m j N l6 l7, j + m = 2 ^ W → soF M N → soD N W (K + spQ y) i j (spN W r y k xs) → X 108 [some (aR 108), some (aI (nI r)), some (aI (nI y)), some (aI (nI k)), some (aI (nI i)), some (aI (nI j)), l6, l7] [] N := by
  have w8 : 2 ^ W ≤ 8 := (Nat.pow_le_pow_right (n := 2) (by decide) hW : 2 ^ W ≤ 2 ^ 3)
  have cl : ∀ a b, a < 2 ^ W → b < 2 ^ W → a + 2 ^ W * b < 2 ^ (2 * W) := fun a b ha hb => by
    rw [n22]
    have : 2 ^ W * b + 2 ^ W ≤ 2 ^ W * 2 ^ W := by
      rw [← Nat.mul_succ]
      exact Nat.mul_le_mul_left _ hb
    omega
  intro m
  induction m with
  | zero =>
    intro j N l6 l7 hj hf hd
    have hj : j = 2 ^ W := by omega
    subst hj
    refine am_run hX 6 _ _ _ _ ?_
    conv => whnf
    rw [hf.1, e88, sh2 W (by omega)]
    refine ⟨fun _ => hE N _ _ hf ⟨fun a b ha hb h => hd.1 a b ha hb (by omega), fun a b ha hb h => hd.2 a b ha hb (by omega)⟩, fun c => absurd (nI_le (by omega) (by omega)) c⟩
  | succ m ih =>
    intro j N l6 l7 hj hf hd
    have hj' : j < 2 ^ W := by omega
    obtain ⟨p1, p2, p3, p4⟩ := ix_f hW hr hi hj'
    refine am_run hX 6 _ _ _ _ ?_
    conv => whnf
    rw [hf.1, e88, sh2 W (by omega)]
    refine ⟨fun c => absurd c (nI_ge (by omega) (by omega)), fun _ => ?_⟩
    have tw : twC N K i j (2 ^ r) (xs (i + 2 ^ W * j)) (xs ((i ^^^ 2 ^ r) + 2 ^ W * (j ^^^ 2 ^ r))) := by
      unfold twC
      rw [hf.2 162 (by decide) (by decide) (by decide)]
      exact ⟨hx i j hi hj', hx _ _ p2 p3⟩
    refine sc_c (d := d) (M := N) hX hK (by omega) (by omega) (by omega) hy hk (hb _ (cl i j hi hj')) (hb _ (cl _ _ p2 p3)) tw (hd.2 i j hi hj' (by omega)) (fun N1 l6 l7 f1 z1 o1 => ?_)
    have eY : zV y k (!decide ((i ^^^ j) &&& 2 ^ r = 0)) (xs (i + 2 ^ W * j)) (xs ((i ^^^ 2 ^ r) + 2 ^ W * (j ^^^ 2 ^ r))) 3 = spN W r y k xs (i + 2 ^ W * j) := by
      rw [zV_3 hy, Bool.not_not]
      unfold spN
      rw [p1, p4]
    rw [eY] at z1
    refine am_run hX 2 _ _ _ _ ?_
    conv => whnf
    rw [nI_1]
    refine ih (j + 1) N1 _ _ (by omega) (soF_t hf f1) ⟨fun a b ha hb h => ?_, fun a b ha hb h => ?_⟩
    · by_cases e : a = i ∧ b = j
      · rw [e.1, e.2]
        exact z1
      · exact at5_e (fun q q1 q2 => o1 q (by omega)) (hd.1 a b ha hb (by omega))
    · exact at5_e (fun q q1 q2 => o1 q (by omega)) (hd.2 a b ha hb (by omega))
set_option maxRecDepth 100000 in
theorem so_i {W K r y k : Nat} {xs : Nat → R4} {Pp : am_Q} {X : am_X} (hX : am_K (d + 4) false nm_X12_spoil Pp X) (hW : W ≤ 3) (hr : r < W) (hK : K ≤ 120) (hy : y < 4) (hk : k < 17) (e88 : M.1 108 88 = nI W) (hb : ∀ c, c < 2 ^ (2 * W) → bbN 1 (xs c)) (hx : ∀ a b, a < 2 ^ W → b < 2 ^ W → at5 (M.2 162) (5 * (8 * a + b)) (red K (xs (a + 2 ^ W * b))).1 (red K (xs (a + 2 ^ W * b))).2) (hE : ∀ N l5 l6 l7, soF M N → soD N W (K + spQ y) (2 ^ W) 0 (spN W r y k xs) → X 262 [some (aR 108), some (aI (nI r)), some (aI (nI y)), some (aI (nI k)), some (aI (nI (2 ^ W))), l5, l6, l7] [] N) : ∀ m i N l5 l6 l7, i + m = 2 ^ W → soF M N → soD N W (K + spQ y) i 0 (spN W r y k xs) → X 94 [some (aR 108), some (aI (nI r)), some (aI (nI y)), some (aI (nI k)), some (aI (nI i)), l5, l6, l7] [] N := by
  have w8 : 2 ^ W ≤ 8 := (Nat.pow_le_pow_right (n := 2) (by decide) hW : 2 ^ W ≤ 2 ^ 3)
  intro m
  induction m with
  | zero =>
    intro i N l5 l6 l7 hi hf hd
    have hi : i = 2 ^ W := by omega
    subst hi
    refine am_run hX 6 _ _ _ _ ?_
    conv => whnf
    rw [hf.1, e88, sh2 W (by omega)]
    exact ⟨fun _ => hE N _ _ _ hf hd, fun c => absurd (nI_le (by omega) (by omega)) c⟩
  | succ m ih =>
    intro i N l5 l6 l7 hi hf hd
    refine am_run hX 6 _ _ _ _ ?_
    conv => whnf
    rw [hf.1, e88, sh2 W (by omega)]
    refine ⟨fun c => absurd c (nI_ge (by omega) (by omega)), fun _ => ?_⟩
    refine am_run hX 2 _ _ _ _ ?_
    conv => whnf
    refine so_j (d := d) (M := M) hX hW hr hK hy hk e88 hb hx (by omega) (fun N1 l6 l7 f1 d1 => ?_) (2 ^ W) 0 N _ _ (by omega) hf hd
    refine am_run hX 2 _ _ _ _ ?_
    conv => whnf
    rw [nI_1]
    exact ih (i + 1) N1 _ _ _ (by omega) f1 d1
end SPL
