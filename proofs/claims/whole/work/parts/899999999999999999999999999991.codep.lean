/-! code: both sides whole -/
/-- what is wrong with a TAPE, and where -/
def cdW (T : Nat → Nat) (t : Nat) : Nat × Nat := match cpE T t with
  | .inr p => (1, p)
  | .inl s => if (chF s.2.2.2.1 s.2.2.2.2.1 (s.2.1 + 1)).1 = 0 then (0, 0) else ((chF s.2.2.2.1 s.2.2.2.2.1 (s.2.1 + 1)).1, s.2.2.2.2.2 (chF s.2.2.2.1 s.2.2.2.2.1 (s.2.1 + 1)).2)
theorem cdW_r {T : Nat → Nat} {t p : Nat} (h : cpE T t = .inr p) : cdW T t = (1, p) := by
  unfold cdW
  rw [h]
theorem cdW_l {T : Nat → Nat} {t : Nat} {s : cpS} (h : cpE T t = .inl s) : cdW T t = if (chF s.2.2.2.1 s.2.2.2.2.1 (s.2.1 + 1)).1 = 0 then (0, 0) else ((chF s.2.2.2.1 s.2.2.2.2.1 (s.2.1 + 1)).1, s.2.2.2.2.2 (chF s.2.2.2.1 s.2.2.2.2.1 (s.2.1 + 1)).2) := by
  unfold cdW
  rw [h]
theorem chF_3 (x z : Nat → Nat) : ∀ i, (chF x z i).1 ≤ 3
  | 0 => Nat.zero_le 3
  | i + 1 => by
    have ih := chF_3 x z i
    show (if (chF x z i).1 = 0 then (chK x z i, i) else chF x z i).1 ≤ 3
    split
    · show chK x z i ≤ 3
      unfold chK
      split
      · decide
      · split <;> decide
    · exact ih
/-- the rows of a whole TAPE have n bits -/
theorem cpE_b {T : Nat → Nat} {t : Nat} {s : cpS} (ht : t ≤ 400) (h : cpE T t = .inl s) : 1 ≤ s.2.2.1 ∧ s.2.2.1 ≤ 8 ∧ s.2.1 + 1 ≤ s.2.2.1 ∧ ∀ j, j < s.2.1 + 1 → s.2.2.2.1 j < 2 ^ s.2.2.1 ∧ s.2.2.2.2.1 j < 2 ^ s.2.2.1 ∧ s.2.2.2.2.2 j < 400 := by
  obtain ⟨hR, hf⟩ := cpE_i h
  have g := cpR_g T t ht hR
  obtain ⟨h0, hN⟩ := cpF_0 g hf
  obtain ⟨g1, g2, g3, g4, g5⟩ := g
  have hrn : s.2.1 + 1 ≤ s.2.2.1 := by
    rcases Nat.eq_zero_or_pos s.2.1 with q | q
    · omega
    · have := (g4 q).1
      have := hN q
      omega
  refine ⟨h0, g2, hrn, fun j hj => ?_⟩
  have := g5 j (by omega)
  have e : (if j = s.2.1 then s.2.2.1 else s.1) = s.2.2.1 := by
    split
    · rfl
    · exact (hN (by omega)).symm
  rw [e] at this
  exact this
/-- what the class's code may change -/
def ccF (M N : mm_M) : Prop := (∀ k, k ≠ 0 → (k < 46 ∨ 52 < k) → N.1 k = M.1 k) ∧ N.2 = M.2 ∧ ∀ y, y ≠ 14 → y ≠ 15 → y ≠ 16 → N.1 0 y = M.1 0 y
def ccQ (M : mm_M) (T : Nat → Nat) (t : Nat) : am_Q := fun r N => ccF M N ∧ N.1 0 14 = 0 ∧ N.1 0 15 = nI (cdW T t).1 ∧ N.1 0 16 = nI (cdW T t).2 ∧
  (((cdW T t).1 ≠ 0 ∧ r = .inr "java/lang/IllegalArgumentException" ∧ (∀ k, k ≠ 0 → k ≠ 46 → k ≠ 49 → k ≠ 50 → N.1 k = M.1 k) ∧ ∀ y, y < 12 ∨ 16 < y → N.1 46 y = M.1 46 y) ∨
   ∃ s, cpE T t = .inl s ∧ (chF s.2.2.2.1 s.2.2.2.2.1 (s.2.1 + 1)).1 = 0 ∧ r = .inl (some (aI (nI s.2.2.1 - nI (s.2.1 + 1)))) ∧ N.1 46 17 = 0 ∧ cdT N s.2.2.1 (s.2.1 + 1) (cdSy s.2.2.2.1 s.2.2.2.2.1 s.2.2.1 (s.2.1 + 1)) (fun v => nI (cdRe s.2.2.2.1 s.2.2.2.2.1 s.2.2.1 (s.2.1 + 1) v)))
section CPP
variable {d : Nat} {M : mm_M} {T : Nat → Nat} {t : Nat}
/-- behind reading: the FAULT is told -/
theorem cc_1 {N : mm_M} (hF : ∀ k, k < 46 ∨ 52 < k → N.1 k = (mm_i M 0 (upd (M.1 0) 14 0)).1 k) (h2 : N.2 = M.2) {a b : Int32} : ccF M (mm_i (mm_i N 0 (upd (N.1 0) 15 a)) 0 (upd ((mm_i N 0 (upd (N.1 0) 15 a)).1 0) 16 b)) := by
  have e0 : N.1 0 = upd (M.1 0) 14 0 := by rw [hF 0 (by omega), mm_i1]
  refine ⟨fun k a b => ?_, h2, fun y a b c => ?_⟩
  · rw [mm_ne _ _ _ _ a, mm_ne _ _ _ _ a, hF k b, mm_ne _ _ _ _ a]
  · rw [mm_i1, mm_i1, e0]
    unfold upd
    rw [if_neg c, if_neg b, if_neg a]
set_option maxRecDepth 100000 in
theorem ct_codeC (ht : t ≤ 400) (e14 : M.1 0 14 = nI t) (hT : ∀ j, j < t → M.1 1 j = nI (T j) ∧ T j < 127) : am_M 999 true nm_X11_code [aR 0] M (ccQ M T t) := by
  refine ⟨rfl, rfl, rfl, fun X hX => am_run hX 12 _ _ _ _ ?_⟩
  conv => whnf
  rw [e14]
  generalize hK : mm_i M 0 (upd (M.1 0) 14 0) = K
  have hT' : ∀ j, j < t → K.1 1 j = nI (T j) ∧ T j < 127 := fun j hj => by
    rw [← hK]
    exact hT j hj
  have hK2 : K.2 = M.2 := by rw [← hK]; rfl
  refine am_cq (ct_rdC (d := 991) (M := K) (T := T) (t := t) ht hT') fun r N hq => ?_
  obtain ⟨q1, hq⟩ := hq
  refine ⟨none, q1, ?_⟩
  conv => whnf
  -- a wrong TAPE
  have hbad : ∀ a b : Nat, cgF K N → cdW T t = (a, b) → a ≠ 0 → a ≤ 3 → N.1 46 15 = nI a → N.1 46 16 = nI b → X 22 [some (aR 0), some (aI (nI t))] [] N := by
    intro a b hF hW ha0 ha3 h15 h16
    refine am_run hX 13 _ _ _ _ ?_
    conv => whnf
    rw [h15, mm_ne N 0 46 _ (by decide), h16]
    refine ⟨fun c => absurd ((nI_eq (a := a) (b := 0) (by omega) (by decide)).mp c) ha0, fun _ => ?_⟩
    refine am_run hX 3 _ _ _ _ ?_
    conv => whnf
    have hG : ∀ k, k < 46 ∨ 52 < k → N.1 k = (mm_i M 0 (upd (M.1 0) 14 0)).1 k := fun k hk => by
      rw [hK]
      exact hF.1 k (by omega) (by omega) (by omega)
    refine ⟨⟨by decide, rfl⟩, cc_1 hG (by rw [hF.2.1, hK2]), ?_, ?_, ?_, Or.inl ⟨?_, rfl, fun k a b c e => ?_, fun y hy => ?_⟩⟩
    · show N.1 0 14 = 0
      rw [hG 0 (by omega)]
      rfl
    · rw [hW]
      rfl
    · rw [hW]
      rfl
    · rw [hW]
      exact ha0
    · rw [mm_ne _ _ _ _ a, mm_ne _ _ _ _ a, hF.1 k b c e, ← hK, mm_ne _ _ _ _ a]
    · show N.1 46 y = _
      rw [hF.2.2 y hy, ← hK]
      rfl
  rcases hq with ⟨p, hE, hF, h15, h16⟩ | ⟨s, hE, hq⟩
  · exact hbad 1 p hF (cdW_r hE) (by decide) (by decide) h15 h16
  · rcases hq with ⟨hc, hF, h15, h16⟩ | ⟨hc, N1, hF, h15, h16, hV, hI⟩
    · exact hbad _ _ hF (by rw [cdW_l hE, if_neg hc]) hc (chF_3 _ _ _) h15 h16
    · obtain ⟨b1, b2, b3, b4⟩ := cpE_b ht hE
      have hcd := to_cd hI b1 b2 (by omega)
      obtain ⟨tF, i10, i11, i17, -⟩ := hI
      have e15 : N.1 46 15 = 0 := (tF.2.2 15 (by decide) (by decide) (by decide)).trans h15
      have e16 : N.1 46 16 = 0 := (tF.2.2 16 (by decide) (by decide) (by decide)).trans h16
      have hG : ∀ k, k < 46 ∨ 52 < k → N.1 k = (mm_i M 0 (upd (M.1 0) 14 0)).1 k := fun k hk => by
        rw [hK, tF.1 k (by omega) (by omega) (by omega) (by omega) (by omega)]
        exact hF.1 k (by omega) (by omega) (by omega)
      have hW : cdW T t = (0, 0) := by rw [cdW_l hE, if_pos hc]
      refine am_run hX 13 _ _ _ _ ?_
      conv => whnf
      rw [e15, mm_ne N 0 46 _ (by decide), e16]
      refine ⟨fun _ => ?_, fun c => absurd rfl c⟩
      refine am_run hX 9 _ _ _ _ ?_
      conv => whnf
      refine ⟨trivial, cc_1 hG (by rw [tF.2.1, hF.2.1, hK2]), ?_, ?_, ?_, Or.inr ⟨s, hE, hc, ?_, i17, hcd⟩⟩
      · show N.1 0 14 = 0
        rw [hG 0 (by omega)]
        rfl
      · rw [hW]
        rfl
      · rw [hW]
        rfl
      · show _ = Sum.inl (some (aI (nI s.2.2.1 - nI (s.2.1 + 1))))
        rw [← i10, ← i11]
        rfl
/-- what the reference's code may change -/
def crG (M N : mm_M) : Prop := (∀ k, k ≠ 108 → (k < 176 ∨ 185 < k) → N.1 k = M.1 k) ∧ N.2 = M.2 ∧ ∀ y, y ≠ 0 → y ≠ 2 → y ≠ 3 → y ≠ 4 → y ≠ 5 → y ≠ 109 → y ≠ 110 → y ≠ 111 → y ≠ 114 → y ≠ 115 → y ≠ 124 → N.1 108 y = M.1 108 y
theorem crG_t {M N K : mm_M} (h : crG M N) (g : crG N K) : crG M K := ⟨fun k a b => (g.1 k a b).trans (h.1 k a b), g.2.1.trans h.2.1, fun y a1 a2 a3 a4 a5 a6 a7 a8 a9 b1 b2 => (g.2.2 y a1 a2 a3 a4 a5 a6 a7 a8 a9 b1 b2).trans (h.2.2 y a1 a2 a3 a4 a5 a6 a7 a8 a9 b1 b2)⟩
theorem crG_c {M N : mm_M} (h : crF M N) : crG M N := ⟨fun k a b => h.1 k a (by omega) (by omega) (by omega), h.2.1, fun y _ _ a3 a4 a5 _ _ _ a9 b1 _ => h.2.2 y a3 a4 a5 a9 b1⟩
theorem crG_e {M N : mm_M} (h : exF M N) : crG M N := ⟨fun k a b => h.1 k a (by omega), h.2.1, fun y _ _ _ _ _ _ _ _ _ _ b2 => h.2.2 y b2⟩
theorem crG_i {M : mm_M} {k : Nat} {f : Nat → Int32} (h : 176 ≤ k ∧ k ≤ 185) : crG M (mm_i M k f) := by
  refine ⟨fun j a b => mm_ne _ _ _ _ (by omega), rfl, fun y _ _ _ _ _ _ _ _ _ _ _ => ?_⟩
  rw [mm_ne _ _ _ _ (by omega)]
theorem crG_f {M : mm_M} {y : Nat} {v : Int32} (h : y = 0 ∨ y = 2 ∨ y = 3 ∨ y = 4 ∨ y = 5 ∨ y = 109 ∨ y = 110 ∨ y = 111) : crG M (mm_i M 108 (upd (M.1 108) y v)) := by
  refine ⟨fun j a b => mm_ne _ _ _ _ a, rfl, fun j a1 a2 a3 a4 a5 a6 a7 a8 a9 b1 b2 => ?_⟩
  rw [mm_i1]
  exact if_neg (by omega)
def crQ (M : mm_M) (T : Nat → Nat) (t : Nat) : am_Q := fun r N => crG M N ∧ N.1 108 2 = 0 ∧ N.1 108 4 = nI (cdW T t).1 ∧ N.1 108 5 = nI (cdW T t).2 ∧
  (((cdW T t).1 ≠ 0 ∧ (∃ w, r = .inl (some (aI w))) ∧ N.1 108 0 = 1 ∧ (∀ k, k ≠ 108 → k ≠ 178 → k ≠ 179 → k ≠ 180 → N.1 k = M.1 k) ∧ ∀ y, y = 109 ∨ y = 110 ∨ y = 111 ∨ y = 124 → N.1 108 y = M.1 108 y) ∨
   ∃ s, cpE T t = .inl s ∧ (chF s.2.2.2.1 s.2.2.2.2.1 (s.2.1 + 1)).1 = 0 ∧ r = .inl (some (aI (nI s.2.2.1 - nI (s.2.1 + 1)))) ∧ N.1 108 0 = 0 ∧ cdR N s.2.2.1 (s.2.1 + 1) (cdSy s.2.2.2.1 s.2.2.2.2.1 s.2.2.1 (s.2.1 + 1)) (fun v => nI (cdRe s.2.2.2.1 s.2.2.2.2.1 s.2.2.1 (s.2.1 + 1) v)) ∧ cdP N s.2.2.1 (s.2.1 + 1) (cdSy s.2.2.2.1 s.2.2.2.2.1 s.2.2.1 (s.2.1 + 1)) (fun v => nI (cdRe s.2.2.2.1 s.2.2.2.2.1 s.2.2.1 (s.2.1 + 1) v)))
/-- the rows are copied -/
theorem cd_cp {P : am_Q} {X : am_X} {x z : Nat → Nat} {s : Nat} {v1 : Int32} (hX : am_K (d + 4) false nm_X12_code P X) (hs : s ≤ 8) (h111 : M.1 108 111 = nI s) (hV : ∀ j, j < s → M.1 178 j = nI (x j) ∧ M.1 179 j = nI (z j)) (hk : ∀ N, (∀ k, k ≠ 176 → k ≠ 177 → N.1 k = M.1 k) → N.2 = M.2 → (∀ j, j < s → N.1 176 j = nI (x j) ∧ N.1 177 j = nI (z j)) → X 116 [some (aR 108), some (aI v1), some (aI (nI s))] [] N) : ∀ (m i : Nat) (N : mm_M), i + m = s → (∀ k, k ≠ 176 → k ≠ 177 → N.1 k = M.1 k) → N.2 = M.2 → (∀ j, j < i → N.1 176 j = nI (x j) ∧ N.1 177 j = nI (z j)) → X 78 [some (aR 108), some (aI v1), some (aI (nI i))] [] N := by
  intro m
  induction m with
  | zero =>
    intro i N ei hF h2 hj
    obtain rfl : i = s := by omega
    refine am_run hX 4 _ _ _ _ ?_
    conv => whnf
    rw [hF 108 (by decide) (by decide), h111]
    refine ⟨fun _ => hk N hF h2 hj, fun c => absurd (nI_le (Nat.le_refl _) (by omega)) c⟩
  | succ m ih =>
    intro i N ei hF h2 hj
    obtain ⟨v1, v2⟩ := hV i (by omega)
    have e1 : N.1 178 i = nI (x i) := by rw [hF 178 (by decide) (by decide)]; exact v1
    have e2 : N.1 179 i = nI (z i) := by rw [hF 179 (by decide) (by decide)]; exact v2
    refine am_run hX 22 _ _ _ _ ?_
    conv => whnf
    rw [hF 108 (by decide) (by decide), h111]
    refine ⟨fun c => absurd c (nI_ge (by omega) (by omega)), fun _ => ?_⟩
    conv => whnf
    refine ⟨vp_in_nI (by show i < 9; omega) (by decide), ?_⟩
    conv => whnf
    refine ⟨vp_in_nI (by show i < 8; omega) (by decide), ?_⟩
    conv => whnf
    refine ⟨vp_in_nI (by show i < 9; omega) (by decide), ?_⟩
    conv => whnf
    refine ⟨vp_in_nI (by show i < 8; omega) (by decide), ?_⟩
    conv => whnf
    rw [nI_clamp (n := i) (by omega), e1, mm_ne N 176 179 _ (by decide), e2, nI_1]
    refine ih (i + 1) _ (by omega) (fun k a b => ?_) h2 (fun j hj1 => ?_)
    · rw [mm_ne _ _ _ _ b, mm_ne _ _ _ _ a]
      exact hF k a b
    · rw [mm_ne _ _ _ _ (by decide : (176 : Nat) ≠ 177), mm_i1, mm_i1]
      by_cases c : j = i
      · subst c
        exact ⟨if_pos rfl, if_pos rfl⟩
      · have := hj j (by omega)
        refine ⟨(if_neg c).trans this.1, ?_⟩
        refine (if_neg c).trans ?_
        rw [mm_ne _ _ _ _ (by decide : (177 : Nat) ≠ 176)]
        exact this.2
end CPP
