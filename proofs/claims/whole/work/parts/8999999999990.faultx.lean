/-! THE PAIR faulty: the class's side -/
def thq (op : Nat → bk_X) (i : Nat) (p : PZ) : Nat → PZ × Nat
  | 0 => (p, 0)
  | m + 1 => stq (op (i + m)) (thq op i p m)
theorem thq_8 {W S i : Nat} {op : Nat → bk_X} {p : PZ} (hW : W ≤ 8) (ho : ∀ j, j < S → ogd W (op j)) (hp : p8 p) : ∀ m, i + m ≤ S → p8 (thq op i p m).1
  | 0, _ => hp
  | m + 1, h => p8_s hW (ho (i + m) (by omega)) (thq_8 hW ho hp m (by omega))
def fans (wh : Int32) (σ : PZ × Nat) : Int32 := if wh = 0 then nI σ.1.1 else if wh = 1 then nI σ.1.2 else nI σ.2
def gdd (W : Nat) (a : Int32) : Prop := ¬ a < 0 ∧ ¬ nI (2 ^ W) ≤ a
theorem nI_tot (a : Int32) : ∃ n, n < 2 ^ 32 ∧ a = nI n := ⟨a.toBitVec.toNat, a.toBitVec.isLt, by
  apply Int32.toBitVec_inj.mp
  simp [nI]⟩
theorem gdd_n {W : Nat} {a : Int32} (hW : W ≤ 8) (h : gdd W a) : ∃ n, n < 2 ^ W ∧ a = nI n := by
  obtain ⟨j, hj, rfl⟩ := nI_of h.1
  have h8 := w256 hW
  refine ⟨j, ?_, rfl⟩
  apply Decidable.byContradiction
  intro c
  exact h.2 (nI_le (by omega) hj)
theorem gdd_i {W n : Nat} (hW : W ≤ 8) (h : n < 2 ^ W) : gdd W (nI n) := by
  have h8 := w256 hW
  exact ⟨nI_pos (by omega), nI_ge h (by omega)⟩
theorem ux_w {W : Nat} {a b : Int32} (h1 : 1 ≤ W) (hW : W ≤ 8) : ((a ||| b).toUInt32 >>> ((nI W).toUInt32 &&& Int32.toUInt32 31)).toInt32 = 0 ↔ gdd W a ∧ gdd W b := by
  have h8 := w256 hW
  have h2 : 2 ≤ 2 ^ W := Nat.pow_le_pow_right (n := 2) (i := 1) (by decide) h1
  constructor
  · intro h
    obtain ⟨n, hn, rfl⟩ := nI_tot a
    obtain ⟨m, hm, rfl⟩ := nI_tot b
    have hl : n ||| m < 2 ^ 32 := Nat.or_lt_two_pow hn hm
    have hd : (n ||| m) / 2 ^ W < 2 ^ 31 := by
      have := Nat.div_le_div_left (a := n ||| m) h2 (by decide)
      omega
    rw [nI_or, nI_us hl W (by omega), show (0 : Int32) = nI 0 from rfl, nI_eq hd (by decide)] at h
    have h := (Nat.div_eq_zero_iff_lt (Nat.two_pow_pos W)).mp h
    have a1 : n ≤ n ||| m := Nat.left_le_or
    have a2 : m ≤ n ||| m := Nat.right_le_or
    exact ⟨gdd_i hW (by omega), gdd_i hW (by omega)⟩
  · rintro ⟨ha, hb⟩
    obtain ⟨n, hn, rfl⟩ := gdd_n hW ha
    obtain ⟨m, hm, rfl⟩ := gdd_n hW hb
    have hl : n ||| m < 2 ^ W := Nat.or_lt_two_pow hn hm
    rw [nI_or, nI_us (by omega) W (by omega), Nat.div_eq_of_lt hl]
    rfl
/-- what faulty does not take of a circuit -/
def fa_b (W S : Nat) (op : Nat → bk_X) (i a b wh : Int32) : Prop := i < 0 ∨ nI S < i ∨ wh < 0 ∨ ¬ wh ≤ 2 ∨ ¬ (gdd W a ∧ gdd W b) ∨ allN (fun j => okB (op j)) S = false
section FAX
variable {d : Nat} {M : mm_M}
set_option maxRecDepth 100000 in
theorem fx_0 {n : Nat} {p i a b wh : Int32} (h : bk_iv M n) (hno : p < 0 ∨ nI n ≤ p) : am_M (d + 2) false nm_X11_faulty [aR 0, aI p, aI i, aI a, aI b, aI wh] M (am_q1 (aI (-1)) M) := by
  refine ⟨rfl, rfl, rfl, fun X hX => am_run hX 60 _ _ _ _ ?_⟩
  conv => whnf
  refine am_c1 (bk_has (d := d) p) ?_
  rw [h.2.1, if_pos hno]
  conv => whnf
  refine ⟨fun _ => ?_, fun c => absurd rfl c⟩
  conv => whnf
  exact ⟨trivial, rfl, rfl⟩
set_option maxRecDepth 100000 in
theorem fx_1 {n c W S : Nat} {op : Nat → bk_X} {i a b wh : Int32} (h : cir M n c W S op) (hno : fa_b W S op i a b wh) : am_M (d + 5) false nm_X11_faulty [aR 0, aI (nI c), aI i, aI a, aI b, aI wh] M (am_q1 (aI (-1)) M) := by
  have hbk := h.1
  have hn := hbk.1
  have cn := h.2.1
  have hbc := h.2.2.1
  have hin : vp_in (nI c) 20 := vp_in_nI (by omega) (by decide)
  refine ⟨rfl, rfl, rfl, fun X hX => am_run hX 60 _ _ _ _ ?_⟩
  conv => whnf
  refine am_c1 (bk_has (d := d + 3) (nI c)) ?_
  rw [hbk.2.1, if_neg (bk_yes hn cn)]
  conv => whnf
  refine ⟨fun c => absurd c (by decide), fun _ => ?_⟩
  conv => whnf
  refine ⟨fun _ => by conv => whnf
                      exact ⟨trivial, rfl, rfl⟩, fun c1 => ?_⟩
  conv => whnf
  refine ⟨hin, ?_⟩
  conv => whnf
  rw [nI_clamp (n := c) (by omega), hbc.2.2.2.2.2.1]
  refine ⟨fun _ => by conv => whnf
                      exact ⟨trivial, rfl, rfl⟩, fun c2 => ?_⟩
  conv => whnf
  refine ⟨fun _ => by conv => whnf
                      exact ⟨trivial, rfl, rfl⟩, fun c3 => ?_⟩
  conv => whnf
  refine ⟨fun c4 => ?_, fun _ => by conv => whnf
                                    exact ⟨trivial, rfl, rfl⟩⟩
  conv => whnf
  refine ⟨hin, ?_⟩
  conv => whnf
  rw [nI_clamp (n := c) (by omega), hbc.2.2.2.1]
  refine ⟨fun _ => by conv => whnf
                      exact ⟨trivial, rfl, rfl⟩, fun c5 => ?_⟩
  have c5 := (ux_w hbc.1 hbc.2.1).mp (Decidable.byContradiction c5)
  have hf : allN (fun j => okB (op j)) S = false := by
    rcases hno with z | z | z | z | z | z
    · exact absurd z c1
    · exact absurd z c2
    · exact absurd z c3
    · exact absurd c4 z
    · exact absurd c5 z
    · exact z
  conv => whnf
  refine am_c1 (ct_canC (d := d) h) ?_
  rw [hf]
  conv => whnf
  refine ⟨fun c => absurd rfl c, fun _ => ?_⟩
  conv => whnf
  exact ⟨trivial, rfl, rfl⟩
def n29 (M : mm_M) : mm_M := mm_i M 29 (upd (upd (M.1 29) 3 (nI 1)) 4 0)
set_option maxRecDepth 100000 in
theorem ct_setD {v x z : Nat} (hv : M.1 29 3 = nI v) (h1 : v ≤ 1) : am_M (d + 1) false nm_X8_setRow [aR 29, aI 0, aI (nI x), aI (nI z)] M (am_q0 (wD (n29 M) 0 (x, z, 0))) := by
  refine ⟨rfl, rfl, rfl, fun X hX => am_run hX 40 _ _ _ _ ?_⟩
  conv => whnf
  refine ⟨i1_0, ?_⟩
  conv => whnf
  refine ⟨i1_0, ?_⟩
  conv => whnf
  refine ⟨i1_0, ?_⟩
  conv => whnf
  refine ⟨⟨rfl, rfl⟩, trivial, rfl, ?_⟩
  have e : (if nI v < 0 + 1 then 0 + 1 else nI v) = nI 1 := by
    rcases (by omega : v = 0 ∨ v = 1) with rfl | rfl <;> rfl
  simp only [mm_i1, mm_ii, mm_ne _ 30 31 _ (show (31 : Nat) ≠ 30 by decide), mm_ne _ 30 32 _ (show (32 : Nat) ≠ 30 by decide), mm_ne _ 31 32 _ (show (32 : Nat) ≠ 31 by decide), mm_ne _ 30 29 _ (show (29 : Nat) ≠ 30 by decide), mm_ne _ 31 29 _ (show (29 : Nat) ≠ 31 by decide), mm_ne _ 32 29 _ (show (29 : Nat) ≠ 32 by decide)]
  rw [hv, e]
  refine Prod.ext (funext fun k => ?_) rfl
  by_cases k9 : k = 29
  · subst k9; rfl
  · by_cases k0 : k = 30
    · subst k0; rfl
    · by_cases k1 : k = 31
      · subst k1; rfl
      · by_cases k2 : k = 32
        · subst k2; rfl
        · simp [wD, n29, mm_i, k9, k0, k1, k2]
set_option maxRecDepth 100000 in
theorem fx_l {P : am_Q} {X : am_X} {N : mm_M} {n c W S i : Nat} {op : Nat → bk_X} {p : PZ} {a b wh : Int32} (hX : am_K (d + 5) false nm_X11_faulty P X) (h : cir N n c W S op) (hi : i ≤ S) (hp : p8 p) (hok : allN (fun j => okB (op j)) S = true) (h3 : N.1 29 3 = nI 1) (h4 : N.1 29 4 = 0) (hP : ∀ y, p8 (pz y) → P (.inl (some (aI (fans wh (thq op i p (S - i)))))) (wD N 0 y)) (hwh : wh = 0 ∨ wh = 1 ∨ wh = 2) : ∀ r m y, i + m + r = S → pz y = (thq op i p m).1 → y.2.2 < 2 → X 85 [some (aR 0), some (aI (nI c)), some (aI (nI i)), some (aI a), some (aI b), some (aI wh), some (aI (nI (thq op i p m).2)), some (aI (nI (i + m)))] [] (wD N 0 y) := by
  obtain ⟨hbk, hcc, hbc, hops, h60⟩ := h
  have hS300 := hbc.2.2.1
  have hn20 := hbk.1
  have w8 := hbc.2.1
  have hin : vp_in (nI c) 20 := vp_in_nI (by omega) (by decide)
  intro r
  induction r with
  | zero =>
    intro m y hm hy h2
    have e : m = S - i := by omega
    have e2 : i + m = S := by omega
    have hy8 : p8 (pz y) := by
      rw [hy]
      exact thq_8 w8 (fun j hj => (hops j hj).1) hp m (by omega)
    rw [e2]
    have hP := hP y hy8
    rw [← e] at hP
    unfold fans at hP
    rw [← hy] at hP
    refine am_run hX 40 _ _ _ _ ?_
    conv => whnf
    refine ⟨hin, ?_⟩
    conv => whnf
    rw [nI_clamp (n := c) (by omega), show (wD N 0 y).1 11 c = nI S from hbc.2.2.2.2.2.1]
    refine ⟨fun _ => ?_, fun c => absurd (nI_le (by omega) (by omega)) c⟩
    rcases hwh with rfl | rfl | rfl
    · conv => whnf
      refine ⟨fun c => absurd rfl c, fun _ => ?_⟩
      conv => whnf
      refine ⟨i1_0, ?_⟩
      conv => whnf
      rw [c0_0, show (wD N 0 y).1 30 0 = nI y.1 from rD_w.1]
      exact ⟨trivial, hP⟩
    · conv => whnf
      refine ⟨fun _ => ?_, fun c => absurd (by decide) c⟩
      conv => whnf
      refine ⟨fun c => absurd rfl c, fun _ => ?_⟩
      conv => whnf
      refine ⟨i1_0, ?_⟩
      conv => whnf
      rw [c0_0, show (wD N 0 y).1 31 0 = nI y.2.1 from rD_w.2.1]
      exact ⟨trivial, hP⟩
    · conv => whnf
      refine ⟨fun _ => ?_, fun c => absurd (by decide) c⟩
      conv => whnf
      refine ⟨fun _ => ?_, fun c => absurd (by decide) c⟩
      conv => whnf
      exact ⟨trivial, hP⟩
  | succ r ih =>
    intro m y hm hy h2
    have hy8 : p8 (pz y) := by
      rw [hy]
      exact thq_8 w8 (fun j hj => (hops j hj).1) hp m (by omega)
    obtain ⟨og, bo⟩ := hops (i + m) (by omega)
    have ho := (all_iff S).mp hok (i + m) (by omega)
    refine am_run hX 7 _ _ _ _ ?_
    conv => whnf
    refine ⟨hin, ?_⟩
    conv => whnf
    rw [nI_clamp (n := c) (by omega), show (wD N 0 y).1 11 c = nI S from hbc.2.2.2.2.2.1]
    refine ⟨fun c => absurd c (nI_ge (by omega) (by omega)), fun _ => ?_⟩
    refine am_run hX 11 _ _ _ _ ?_
    conv => whnf
    refine am_c1 (bk_at (d := d + 2) (M := wD N 0 y) (n := n) (S := S) (W := W) hbk hcc hbc (by omega)) ?_
    rw [show (wD N 0 y).1 10 (300 * c + (i + m)) = nI (bk_p (op (i + m))) from bo.1]
    conv => whnf
    refine am_cq (ct_carry (d := d) w8 og ho h3 h4 (p8_rw hy8 h2)) ?_
    rintro q M' ⟨rfl, y', e1, e2, rfl⟩
    refine ⟨_, rfl, ?_⟩
    have key := ih (m + 1) y' (by omega) (by rw [e1, hy]; rfl) e2
    rw [hy, show stq (op (i + m)) ((thq op i p m).1, (thq op i p m).2) = thq op i p (m + 1) from rfl]
    conv => whnf
    rw [nI_1]
    exact key
set_option maxRecDepth 100000 in
theorem fx_2 {n c W S i x z v : Nat} {op : Nat → bk_X} {wh : Int32} (h : cir M n c W S op) (hi : i ≤ S) (hx : x < 2 ^ W) (hz : z < 2 ^ W) (hok : allN (fun j => okB (op j)) S = true) (hv : M.1 29 3 = nI v) (h1 : v ≤ 1) (hwh : wh = 0 ∨ wh = 1 ∨ wh = 2) : am_M (d + 6) false nm_X11_faulty [aR 0, aI (nI c), aI (nI i), aI (nI x), aI (nI z), aI wh] M (fun r M' => r = .inl (some (aI (fans wh (thq op i (x, z) (S - i))))) ∧ ∃ y, M' = wD (n29 M) 0 y) := by
  have hbk := h.1
  have hn := hbk.1
  have cn := h.2.1
  have hbc := h.2.2.1
  have w8 := hbc.2.1
  have hS := hbc.2.2.1
  have h8 := w256 w8
  have hin : vp_in (nI c) 20 := vp_in_nI (by omega) (by decide)
  have hp : p8 (x, z) := ⟨(show x < 2 ^ 8 by omega), (show z < 2 ^ 8 by omega)⟩
  have hN : cir (n29 M) n c W S op := h
  refine ⟨rfl, rfl, rfl, fun X hX => ?_⟩
  have key := fx_l (d := d) (N := n29 M) (a := nI x) (b := nI z) (p := (x, z)) (wh := wh) hX hN hi hp hok (by unfold n29; rw [mm_i1]; rfl) (by unfold n29; rw [mm_i1]; rfl) (fun y _ => ⟨rfl, y, rfl⟩) hwh (S - i) 0 (x, z, 0) (by omega) rfl (show 0 < 2 by decide)
  refine am_run hX 43 _ _ _ _ ?_
  conv => whnf
  refine am_c1 (bk_has (d := d + 4) (nI c)) ?_
  rw [hbk.2.1, if_neg (bk_yes hn cn)]
  conv => whnf
  refine ⟨fun c => absurd c (by decide), fun _ => ?_⟩
  conv => whnf
  refine ⟨fun c => absurd c (nI_pos (by omega)), fun _ => ?_⟩
  conv => whnf
  refine ⟨hin, ?_⟩
  conv => whnf
  rw [nI_clamp (n := c) (by omega), hbc.2.2.2.2.2.1]
  refine ⟨fun c => absurd c (nI_nlt hi (by omega)), fun _ => ?_⟩
  conv => whnf
  refine ⟨fun c => absurd c (by rcases hwh with rfl | rfl | rfl <;> decide), fun _ => ?_⟩
  conv => whnf
  refine ⟨fun _ => ?_, fun c => absurd (by rcases hwh with rfl | rfl | rfl <;> decide) c⟩
  conv => whnf
  refine ⟨hin, ?_⟩
  conv => whnf
  rw [nI_clamp (n := c) (by omega), hbc.2.2.2.1]
  refine ⟨fun c => absurd ((ux_w hbc.1 w8).mpr ⟨gdd_i w8 hx, gdd_i w8 hz⟩) c, fun _ => ?_⟩
  conv => whnf
  refine am_c1 (ct_canC (d := d + 1) h) ?_
  rw [hok]
  conv => whnf
  refine ⟨fun _ => ?_, fun c => absurd (by decide) c⟩
  conv => whnf
  refine am_c0 (ct_setD (d := d + 4) hv h1) ?_
  conv => whnf
  exact key
end FAX
