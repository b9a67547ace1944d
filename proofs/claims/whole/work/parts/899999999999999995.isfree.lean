/-! DIAGRAMS: isFree, isNext, isNoPlain at the reference -/
def fsP (inp : Nat) (W : WB) (a : Nat) : Prop := ∀ j, W.2.2 a j ≠ 0 → W.2.2 a j = 2 ∧ 2 * inp ≤ j
def nxP (W : WB) (i a b : Nat) : Prop := i ≠ a ∧ i ≠ b ∧ (W.2.2 i a ≠ 0 ∨ W.2.2 i b ≠ 0)
def npP (W : WB) (a b : Nat) : Prop := ∀ i j, j < i → nxP W i a b → nxP W j a b → W.2.2 i j ≠ 1
section ISF
variable {d m inp : Nat} {N : mm_M} {W : WB}
set_option maxRecDepth 100000 in
theorem if_l {a : Nat} {Pp : am_Q} {X : am_X} (hX : am_K (d + 2) false nm_X12_isFree Pp X) (h : rwR N inp W) (g : gdW m inp W) (la : a < 60) (h1 : fsP inp W a → Pp (.inl (some (aI 1))) N) (h0 : ¬ fsP inp W a → Pp (.inl (some (aI 0))) N) : ∀ w i, i + w = 60 → (∀ j, j < i → W.2.2 a j ≠ 0 → W.2.2 a j = 2 ∧ 2 * inp ≤ j) → X 2 [some (aR 108), some (aI (nI a)), some (aI (nI i))] [] N := by
  have m60 := g.1
  have g5 := g.2.2.2.2.1
  intro w
  induction w with
  | zero =>
    intro i hi hd
    have hi : i = 60 := by omega
    subst hi
    refine am_run hX 5 _ _ _ _ ?_
    conv => whnf
    refine ⟨fun _ => ?_, fun c => absurd (by decide) c⟩
    conv => whnf
    refine ⟨rfl, h1 fun j hj => hd j ?_ hj⟩
    have := g5 j (g.2.2.2.2.2.2.2.2.2.1 a j hj).2
    omega
  | succ w ih =>
    intro i hi hd
    have e2 := g.2.2.2.2.2.2.2.2.1 a i
    have k := ct_ekR (d := d + 1) (i := a) (j := i) h la (by omega)
    have nx : (W.2.2 a i ≠ 0 → W.2.2 a i = 2 ∧ 2 * inp ≤ i) → X 37 [some (aR 108), some (aI (nI a)), some (aI (nI i))] [] N := fun hq => by
      refine am_run hX 2 _ _ _ _ ?_
      conv => whnf
      rw [nI_1]
      refine ih (i + 1) (by omega) fun j hj => ?_
      by_cases e : j = i
      · rw [e]
        exact hq
      · exact hd j (by omega)
    have no : ¬ (W.2.2 a i ≠ 0 → W.2.2 a i = 2 ∧ 2 * inp ≤ i) → X 35 [some (aR 108), some (aI (nI a)), some (aI (nI i))] [] N := fun hq => by
      refine am_run hX 2 _ _ _ _ ?_
      conv => whnf
      exact ⟨rfl, h0 fun z => hq (z i)⟩
    refine am_run hX 3 _ _ _ _ ?_
    conv => whnf
    refine ⟨fun c => absurd c (nI_ge (a := i) (b := 60) (by omega) (by decide)), fun _ => ?_⟩
    refine am_run hX 5 _ _ _ _ ?_
    conv => whnf
    refine am_c1 k ?_
    conv => whnf
    by_cases z : W.2.2 a i = 0
    · exact ⟨fun _ => nx fun y => absurd z y, fun c => absurd (by rw [z]; rfl) c⟩
    · refine ⟨fun c => absurd c (nI_ne0 (by omega) (by omega)), fun _ => ?_⟩
      refine am_run hX 6 _ _ _ _ ?_
      conv => whnf
      refine am_c1 k ?_
      conv => whnf
      by_cases z2 : W.2.2 a i = 2
      · refine ⟨fun c => absurd (by rw [z2]; rfl) c, fun _ => ?_⟩
        have ti := (g.2.2.2.2.2.2.2.2.2.1 a i z).2
        refine am_run hX 4 _ _ _ _ ?_
        conv => whnf
        refine am_c1 (ct_inR (d := d) h g) ?_
        by_cases hi2 : 2 * inp ≤ i
        · rw [iteC_t ⟨i, ⟨ti, hi2⟩, rfl⟩]
          conv => whnf
          exact ⟨fun _ => nx fun _ => ⟨z2, hi2⟩, fun c => absurd (by decide) c⟩
        · rw [iteC_f (fun ⟨x, hx, e⟩ => hi2 (by
            have := g5 x hx.1
            rw [(nI_eq (by omega) (by omega)).mp e]
            exact hx.2))]
          conv => whnf
          exact ⟨fun c => absurd rfl c, fun _ => no fun y => hi2 (y z).2⟩
      · exact ⟨fun _ => no fun y => z2 (y z).1, fun c => absurd (fun y => z2 ((nI_eq (a := W.2.2 a i) (b := 2) (by omega) (by decide)).mp y)) c⟩
set_option maxRecDepth 100000 in
theorem ct_fsR {a : Nat} (h : rwR N inp W) (g : gdW m inp W) (la : a < 60) : am_M (d + 3) false nm_X12_isFree [aR 108, aI (nI a)] N (fun r M' => M' = N ∧ ((fsP inp W a ∧ r = .inl (some (aI 1))) ∨ (¬ fsP inp W a ∧ r = .inl (some (aI 0))))) := by
  refine ⟨rfl, rfl, rfl, fun X hX => am_run hX 2 _ _ _ _ ?_⟩
  conv => whnf
  exact if_l (d := d) hX h g la (fun y => ⟨rfl, Or.inl ⟨y, rfl⟩⟩) (fun y => ⟨rfl, Or.inr ⟨y, rfl⟩⟩) 60 0 (by omega) (fun j hj => absurd hj (Nat.not_lt_zero _))
set_option maxRecDepth 100000 in
theorem ct_nxR {i a b : Nat} (h : rwR N inp W) (h2 : ∀ i j, W.2.2 i j ≤ 2) (li : i < 60) (la : a < 60) (lb : b < 60) : am_M (d + 2) false nm_X12_isNext [aR 108, aI (nI i), aI (nI a), aI (nI b)] N (fun r M' => M' = N ∧ ((nxP W i a b ∧ r = .inl (some (aI 1))) ∨ (¬ nxP W i a b ∧ r = .inl (some (aI 0))))) := by
  refine ⟨rfl, rfl, rfl, fun X hX => ?_⟩
  have no : ¬ nxP W i a b → X 32 [some (aR 108), some (aI (nI i)), some (aI (nI a)), some (aI (nI b))] [] N := fun hq => by
    refine am_run hX 2 _ _ _ _ ?_
    conv => whnf
    exact ⟨rfl, rfl, Or.inr ⟨hq, rfl⟩⟩
  have yes : nxP W i a b → X 28 [some (aR 108), some (aI (nI i)), some (aI (nI a)), some (aI (nI b))] [] N := fun hq => by
    refine am_run hX 3 _ _ _ _ ?_
    conv => whnf
    exact ⟨rfl, rfl, Or.inl ⟨hq, rfl⟩⟩
  have b1 := h2 i a
  have b2 := h2 i b
  refine am_run hX 3 _ _ _ _ ?_
  conv => whnf
  by_cases e1 : i = a
  · exact ⟨fun _ => no fun z => z.1 e1, fun c => absurd (by rw [e1]) c⟩
  refine ⟨fun c => absurd ((nI_eq (by omega) (by omega)).mp c) e1, fun _ => ?_⟩
  refine am_run hX 3 _ _ _ _ ?_
  conv => whnf
  by_cases e2 : i = b
  · exact ⟨fun _ => no fun z => z.2.1 e2, fun c => absurd (by rw [e2]) c⟩
  refine ⟨fun c => absurd ((nI_eq (by omega) (by omega)).mp c) e2, fun _ => ?_⟩
  refine am_run hX 5 _ _ _ _ ?_
  conv => whnf
  refine am_c1 (ct_ekR (d := d) h li la) ?_
  conv => whnf
  by_cases z1 : W.2.2 i a = 0
  · refine ⟨fun c => absurd (by rw [z1]; rfl) c, fun _ => ?_⟩
    refine am_run hX 5 _ _ _ _ ?_
    conv => whnf
    refine am_c1 (ct_ekR (d := d) h li lb) ?_
    conv => whnf
    by_cases z2 : W.2.2 i b = 0
    · refine ⟨fun _ => no fun z => ?_, fun c => absurd (by rw [z2]; rfl) c⟩
      rcases z.2.2 with y | y
      · exact y z1
      · exact y z2
    · exact ⟨fun c => absurd c (nI_ne0 (by omega) (by omega)), fun _ => yes ⟨e1, e2, Or.inr z2⟩⟩
  · exact ⟨fun _ => yes ⟨e1, e2, Or.inl z1⟩, fun c => absurd (nI_ne0 (by omega) (by omega)) c⟩
set_option maxRecDepth 100000 in
theorem np_43 {i j a b : Nat} {l5 : Option am_V} {Pp : am_Q} {X : am_X} (hX : am_K (d + 2) false nm_X12_isNoPlain Pp X) (h : rwR N inp W) (h2 : ∀ i j, W.2.2 i j ≤ 2) (li : i < 60) (lj : j < 60) (la : a < 60) (lb : b < 60) (hK : ∀ t : Nat, t < 2 → (t = 1 ↔ nxP W i a b ∧ nxP W j a b) → X 43 [some (aR 108), some (aI (nI a)), some (aI (nI b)), some (aI (nI i)), some (aI (nI j)), l5] [aI (nI t)] N) : X 17 [some (aR 108), some (aI (nI a)), some (aI (nI b)), some (aI (nI i)), some (aI (nI j)), l5] [] N := by
  have no : ¬ (nxP W i a b ∧ nxP W j a b) → X 42 [some (aR 108), some (aI (nI a)), some (aI (nI b)), some (aI (nI i)), some (aI (nI j)), l5] [] N := fun hq => by
    refine am_run hX 1 _ _ _ _ ?_
    conv => whnf
    exact hK 0 (by decide) ⟨fun z => absurd z (by decide), fun z => absurd z hq⟩
  refine am_run hX 6 _ _ _ _ ?_
  conv => whnf
  refine am_cq (ct_nxR (d := d) h h2 li la lb) ?_
  rintro r N1 ⟨rfl, ⟨hq, rfl⟩ | ⟨hq, rfl⟩⟩
  · refine ⟨_, rfl, ?_⟩
    conv => whnf
    refine ⟨fun c => absurd c (by decide), fun _ => ?_⟩
    refine am_run hX 6 _ _ _ _ ?_
    conv => whnf
    refine am_cq (ct_nxR (d := d) h h2 lj la lb) ?_
    rintro r N2 ⟨rfl, ⟨hq2, rfl⟩ | ⟨hq2, rfl⟩⟩
    · refine ⟨_, rfl, ?_⟩
      conv => whnf
      refine ⟨fun c => absurd c (by decide), fun _ => ?_⟩
      refine am_run hX 2 _ _ _ _ ?_
      conv => whnf
      exact hK 1 (by decide) ⟨fun _ => ⟨hq, hq2⟩, fun _ => rfl⟩
    · refine ⟨_, rfl, ?_⟩
      conv => whnf
      exact ⟨fun _ => no fun z => hq2 z.2, fun c => absurd rfl c⟩
  · refine ⟨_, rfl, ?_⟩
    conv => whnf
    exact ⟨fun _ => no fun z => hq z.1, fun c => absurd rfl c⟩
set_option maxRecDepth 100000 in
theorem np_j {i a b : Nat} {Pp : am_Q} {X : am_X} (hX : am_K (d + 2) false nm_X12_isNoPlain Pp X) (h : rwR N inp W) (h2 : ∀ i j, W.2.2 i j ≤ 2) (li : i < 60) (la : a < 60) (lb : b < 60) (h0 : ¬ npP W a b → Pp (.inl (some (aI 0))) N) (hK : (∀ j, j < i → nxP W i a b → nxP W j a b → W.2.2 i j ≠ 1) → ∀ l4 l5, X 69 [some (aR 108), some (aI (nI a)), some (aI (nI b)), some (aI (nI i)), l4, l5] [] N) : ∀ w j l5, j + w = i → (∀ x, x < j → nxP W i a b → nxP W x a b → W.2.2 i x ≠ 1) → X 11 [some (aR 108), some (aI (nI a)), some (aI (nI b)), some (aI (nI i)), some (aI (nI j)), l5] [] N := by
  intro w
  induction w with
  | zero =>
    intro j l5 hj hd
    have hj : j = i := by omega
    subst hj
    refine am_run hX 3 _ _ _ _ ?_
    conv => whnf
    exact ⟨fun _ => hK hd _ _, fun c => absurd (nI_le (by omega) (by omega)) c⟩
  | succ w ih =>
    intro j l5 hj hd
    have e2 := h2 i j
    have nx : ∀ l5, (nxP W i a b → nxP W j a b → W.2.2 i j ≠ 1) → X 63 [some (aR 108), some (aI (nI a)), some (aI (nI b)), some (aI (nI i)), some (aI (nI j)), l5] [] N := fun l5 hq => by
      refine am_run hX 2 _ _ _ _ ?_
      conv => whnf
      rw [nI_1]
      refine ih (j + 1) _ (by omega) fun x hx => ?_
      by_cases e : x = j
      · rw [e]
        exact hq
      · exact hd x (by omega)
    refine am_run hX 3 _ _ _ _ ?_
    conv => whnf
    refine ⟨fun c => absurd c (nI_ge (by omega) (by omega)), fun _ => ?_⟩
    refine np_43 (d := d) hX h h2 li (by omega) la lb fun t ht hti => ?_
    obtain rfl | rfl : t = 0 ∨ t = 1 := by omega
    · refine am_run hX 3 _ _ _ _ ?_
      conv => whnf
      exact ⟨fun _ => nx _ fun y1 y2 => absurd (hti.mpr ⟨y1, y2⟩) (by decide), fun c => absurd rfl c⟩
    · obtain ⟨y1, y2⟩ := hti.mp rfl
      refine am_run hX 3 _ _ _ _ ?_
      conv => whnf
      refine ⟨fun c => absurd c (by decide), fun _ => ?_⟩
      refine am_run hX 6 _ _ _ _ ?_
      conv => whnf
      refine am_c1 (ct_ekR (d := d + 1) h li (by omega)) ?_
      conv => whnf
      by_cases z : W.2.2 i j = 1
      · refine ⟨fun c => absurd (by rw [z]; rfl) c, fun _ => ?_⟩
        refine am_run hX 2 _ _ _ _ ?_
        conv => whnf
        exact ⟨rfl, h0 fun y => y i j (by omega) y1 y2 z⟩
      · exact ⟨fun _ => nx _ fun _ _ => z, fun c => absurd (fun y => z ((nI_eq (a := W.2.2 i j) (b := 1) (by omega) (by decide)).mp y)) c⟩
set_option maxRecDepth 100000 in
theorem np_i {a b : Nat} {Pp : am_Q} {X : am_X} (hX : am_K (d + 2) false nm_X12_isNoPlain Pp X) (h : rwR N inp W) (g : gdW m inp W) (la : a < 60) (lb : b < 60) (h0 : ¬ npP W a b → Pp (.inl (some (aI 0))) N) (h1 : npP W a b → Pp (.inl (some (aI 1))) N) : ∀ w i l4 l5, i + w = 60 → (∀ x j, x < i → j < x → nxP W x a b → nxP W j a b → W.2.2 x j ≠ 1) → X 2 [some (aR 108), some (aI (nI a)), some (aI (nI b)), some (aI (nI i)), l4, l5] [] N := by
  have m60 := g.1
  intro w
  induction w with
  | zero =>
    intro i l4 l5 hi hd
    have hi : i = 60 := by omega
    subst hi
    refine am_run hX 5 _ _ _ _ ?_
    conv => whnf
    refine ⟨fun _ => ?_, fun c => absurd (by decide) c⟩
    conv => whnf
    refine ⟨rfl, h1 fun x j hjx hx hj => hd x j ?_ hjx hx hj⟩
    have tx : W.1 x = true := by
      rcases hx.2.2 with y | y
      · exact (g.2.2.2.2.2.2.2.2.2.1 x a y).1
      · exact (g.2.2.2.2.2.2.2.2.2.1 x b y).1
    have := g.2.2.2.2.1 x tx
    omega
  | succ w ih =>
    intro i l4 l5 hi hd
    refine am_run hX 3 _ _ _ _ ?_
    conv => whnf
    refine ⟨fun c => absurd c (nI_ge (a := i) (b := 60) (by omega) (by decide)), fun _ => ?_⟩
    refine am_run hX 2 _ _ _ _ ?_
    conv => whnf
    refine np_j (d := d) hX h g.2.2.2.2.2.2.2.2.1 (by omega) la lb h0 (fun hq l4 l5 => ?_) i 0 _ (by omega) (fun x hx => absurd hx (Nat.not_lt_zero _))
    refine am_run hX 2 _ _ _ _ ?_
    conv => whnf
    rw [nI_1]
    refine ih (i + 1) _ _ (by omega) fun x j hx => ?_
    by_cases e : x = i
    · rw [e]
      exact hq j
    · exact hd x j (by omega)
set_option maxRecDepth 100000 in
theorem ct_npR {a b : Nat} (h : rwR N inp W) (g : gdW m inp W) (la : a < 60) (lb : b < 60) : am_M (d + 3) false nm_X12_isNoPlain [aR 108, aI (nI a), aI (nI b)] N (fun r M' => M' = N ∧ ((npP W a b ∧ r = .inl (some (aI 1))) ∨ (¬ npP W a b ∧ r = .inl (some (aI 0))))) := by
  refine ⟨rfl, rfl, rfl, fun X hX => am_run hX 2 _ _ _ _ ?_⟩
  conv => whnf
  exact np_i (d := d) hX h g la lb (fun y => ⟨rfl, Or.inr ⟨y, rfl⟩⟩) (fun y => ⟨rfl, Or.inl ⟨y, rfl⟩⟩) 60 0 _ _ (by omega) (fun x j hx => absurd hx (Nat.not_lt_zero _))
end ISF
