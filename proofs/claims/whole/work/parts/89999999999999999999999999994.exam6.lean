/-! code: the reference examines, whole -/
section EXW
variable {d : Nat} {M : mm_M} {n s : Nat} {x z : Nat → Nat}
/-- what examine leaves -/
def exQ (M N : mm_M) (n s : Nat) (sy : Nat → Nat) (re : Nat → Int32) : Prop := exF M N ∧ (∀ u, u < 4 ^ n → N.1 181 u = nI (srt sy re u)) ∧ (∀ w, w < 9 → N.1 182 w = nI (kN (pA re w) (4 ^ n))) ∧ (∀ w, w < 9 → N.1 183 w = nI (kN (pB sy w) (4 ^ n))) ∧ (∀ w, w < 9 → N.1 184 w = nI (kN (pC sy re (4 ^ n) w) (4 ^ n))) ∧ (∀ u, u < 256 → N.1 185 u = oN (lsCd sy (4 ^ n) u)) ∧ N.1 108 124 = nI (dsM n s sy re (4 ^ n))
set_option maxRecDepth 100000 in
theorem ct_exam (hR : exR M n s x z) (hx : ∀ j, j < s → x j < 2 ^ n) (hz : ∀ j, j < s → z j < 2 ^ n) (hq : ∀ i j, i < s → j < s → qmB (x i) (z i) (x j) (z j) = true) : am_M (d + 4) false nm_X12_examine [aR 108] M (fun r N => r = .inl none ∧ exQ M N n s (cdSy x z n s) (fun v => nI (cdRe x z n s v))) := by
  have n8 := hR.2.2.2.1
  have s8 := hR.2.2.2.2.1
  have hg : ∀ j, j < s → x j < 256 ∧ z j < 256 := fun j hj => (hR.2.2.2.2.2 j hj).2.2
  refine ⟨rfl, rfl, rfl, fun X hX => am_run hX 9 _ _ _ _ ?_⟩
  conv => whnf
  rw [hR.1, show (2 : Int32) * nI n = nI (2 * n) from by rw [show (2 : Int32) = nI 2 from rfl, nI_mul], sh2 (2 * n) (by omega), show 2 ^ (2 * n) = 4 ^ n from by rw [Nat.pow_mul]]
  refine ex_1 (d := d) hX hR (fun N1 f1 h1 => ?_) (4 ^ n) 0 M (by omega) (exF_r M) (fun u hu => absurd hu (Nat.not_lt_zero _))
  refine am_run hX 2 _ _ _ _ ?_
  conv => whnf
  refine ex_2 (d := d) hX hR (fun N2 a3 a4 a5 f2 h2 => ?_) (2 ^ s) 0 N1 none none none (by omega) f1 (fun u hu => h1 u hu)
  have h181 : ∀ u, u < 4 ^ n → N2.1 181 u = nI (srt (cdSy x z n s) (fun v => nI (cdRe x z n s v)) u) := by
    intro u hu
    rw [h2 u hu]
    have l := cdRe_l (v := u) n8 hg
    have e0 : nI (cdRe x z n s u) = 0 ↔ cdRe x z n s u = 0 := nI_eq (b := 0) (by omega) (by decide)
    have gz := grp_z (x := x) (z := z) (n := n) (s := s) (u := u) n8 hu hx hz
    unfold exS srt
    by_cases c : mB x z n s (2 ^ s) u = true
    · rw [if_pos c, if_pos (e0.mpr (gz.mp c))]
      rfl
    · rw [if_neg c, if_neg (fun q => c (gz.mpr (e0.mp q)))]
      split <;> rfl
  have hcz : ∀ u, u < 4 ^ n → (fun v => nI (cdRe x z n s v)) u = 0 → cdSy x z n s u = 0 := by
    intro u hu h0
    have l := cdRe_l (v := u) n8 hg
    exact grp_c n8 (fun j hj => (hg j hj).1) (fun j hj => (hg j hj).2) hq ((nI_eq (b := 0) (by omega) (by decide)).mp h0)
  refine am_run hX 2 _ _ _ _ ?_
  conv => whnf
  refine ex_3 (d := d) (M := N2) hX (fun N3 f3 h3 h3' => ?_) 9 0 N2 (by omega) (exF_r N2) rfl (fun w hw => absurd hw (Nat.not_lt_zero _))
  refine am_run hX 2 _ _ _ _ ?_
  conv => whnf
  refine ex_4 (d := d) (M := N3) hX (fun N4 f4 h4 h4' => ?_) 256 0 N3 (by omega) (exF_r N3) (fun _ _ => rfl) (fun w hw => absurd hw (Nat.not_lt_zero _))
  refine am_run hX 5 _ _ _ _ ?_
  conv => whnf
  generalize hN5 : mm_i N4 108 (upd (N4.1 108) 124 99) = N5
  have ne5 : ∀ k, k ≠ 108 → N5.1 k = N4.1 k := fun k hk => by rw [← hN5]; exact mm_ne _ _ _ _ hk
  have f5 : exF M N5 := by
    refine exF_t (exF_t (exF_t f2 f3) f4) ?_
    rw [← hN5]
    refine ⟨fun k a b => mm_ne _ _ _ _ a, rfl, fun y hy => ?_⟩
    rw [mm_i1]
    exact if_neg hy
  have b181 : N5.1 181 = N2.1 181 := by rw [ne5 181 (by decide), h4 181 (by decide), h3]
  have hJ0 : exJ N5 N5 n s (cdSy x z n s) (fun v => nI (cdRe x z n s v)) 0 := by
    refine ⟨exF_r N5, rfl, fun w hw => ?_, fun w hw => ?_, fun w hw => ?_, fun u hu => ?_, ?_⟩
    · rw [ne5 182 (by decide), h4 182 (by decide)]
      exact (h3' w hw).1
    · rw [ne5 183 (by decide), h4 183 (by decide)]
      exact (h3' w hw).2.1
    · rw [ne5 184 (by decide), h4 184 (by decide)]
      exact (h3' w hw).2.2
    · rw [ne5 185 (by decide)]
      exact h4' u hu
    · rw [← hN5]
      rfl
  refine ex_5 (d := d) (M := N5) (re := fun v => nI (cdRe x z n s v)) hX (exR_f hR f5) (fun u hu => by rw [b181]; exact h181 u hu) hcz (fun N6 b3 b4 b5 h6 => ?_) (4 ^ n) 0 N5 a3 a4 a5 (by omega) hJ0
  obtain ⟨f6, i1, i2, i3, i4, i5, i6⟩ := h6
  refine am_run hX 2 _ _ _ _ ?_
  conv => whnf
  have g6 := exF_t f5 f6
  have h181' : ∀ u, u < 4 ^ n → N6.1 181 u = nI (srt (cdSy x z n s) (fun v => nI (cdRe x z n s v)) u) := fun u hu => by
    rw [i1, b181]
    exact h181 u hu
  refine ex_6 (d := d) (M := N6) hX (exR_f hR g6) h181' i5 (fun N7 h7 => ?_) (4 ^ n) 0 N6 b3 b4 b5 (by omega) ⟨exF_r N6, fun _ _ => rfl, fun w hw => i4 w hw⟩
  obtain ⟨f7, k1, k2⟩ := h7
  refine ⟨rfl, exF_t g6 f7, fun u hu => by rw [k1 181 (by decide)]; exact h181' u hu, fun w hw => by rw [k1 182 (by decide)]; exact i2 w hw, fun w hw => by rw [k1 183 (by decide)]; exact i3 w hw, k2, fun u hu => by rw [k1 185 (by decide)]; exact i5 u hu, ?_⟩
  rw [k1 108 (by decide)]
  exact i6
end EXW
