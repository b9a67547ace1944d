/-! spoil -/
theorem spQ_b : ∀ y, y < 4 → ∀ k, k < 17 → ∀ s : Bool, (spS y k s).natAbs + (spC y k s).natAbs ≤ (if y = 0 then 64 else 16) := by decide +kernel
theorem sI_mono2 {F : Nat → Int} {G : Nat → Int} (n : Nat) (h : ∀ i, i < n → F i ≤ G i) : sI F n ≤ sI G n := sI_le n h
section SPZ
variable {d W r y k : Nat} {M : mm_M} {xs : Nat → R4}
theorem sp_nrm (hW : W ≤ 3) (hr : r < W) (hy : y < 4) (hk : k < 17) : sI (fun j => nrm (spN W r y k xs j)) (2 ^ (2 * W)) ≤ 2 ^ spQ y * sI (fun j => nrm (xs j)) (2 ^ (2 * W)) := by
  have bl : boW W r < 2 ^ (2 * W) := by
    have := (bo_f hW hr (c := 0) (Nat.pow_pos (by decide))).1
    rw [Nat.zero_xor] at this
    exact this
  have qe : (2 : Int) ^ spQ y = (if y = 0 then 64 else 16) * (if y = 0 then 64 else 16) := by
    unfold spQ
    by_cases c : y = 0
    · rw [if_pos c, if_pos c]; decide
    · rw [if_neg c, if_neg c]; decide
  have qn : (((if y = 0 then 64 else 16 : Nat)) : Int) = if y = 0 then 64 else 16 := by
    by_cases c : y = 0
    · rw [if_pos c, if_pos c]; rfl
    · rw [if_neg c, if_neg c]; rfl
  have q0 : (0 : Int) ≤ if y = 0 then 64 else 16 := by
    by_cases c : y = 0
    · rw [if_pos c]; decide
    · rw [if_neg c]; decide
  have hb : ∀ j, ((spS y k (smW W r j)).natAbs + (spC y k (smW W r j)).natAbs : Int) ≤ if y = 0 then 64 else 16 := fun j => by
    have := spQ_b y hy k hk (smW W r j)
    rw [← qn]
    omega
  rw [qe]
  generalize (if y = 0 then (64 : Int) else 16) = Q at *
  have s1 : sI (fun j => nrm (spN W r y k xs j)) (2 ^ (2 * W)) ≤ sI (fun j => Q * ((spS y k (smW W r j)).natAbs * nrm (xs j) + (spC y k (smW W r j)).natAbs * nrm (xs (j ^^^ boW W r)))) (2 ^ (2 * W)) := sI_le _ fun j _ => by
    have a := nrm_lin (spS y k (smW W r j)) (spC y k (smW W r j)) (xs j) (xs (j ^^^ boW W r))
    have b := hb j
    have p : (0 : Int) ≤ (spS y k (smW W r j)).natAbs * nrm (xs j) + (spC y k (smW W r j)).natAbs * nrm (xs (j ^^^ boW W r)) := by
      have p1 := Int.mul_nonneg (show (0 : Int) ≤ (spS y k (smW W r j)).natAbs by omega) (nrm0 (xs j))
      have p2 := Int.mul_nonneg (show (0 : Int) ≤ (spC y k (smW W r j)).natAbs by omega) (nrm0 (xs (j ^^^ boW W r)))
      omega
    exact Int.le_trans a (Int.mul_le_mul_of_nonneg_right b p)
  rw [sI_mul, sI_add] at s1
  have s2 : sI (fun j => (spC y k (smW W r j)).natAbs * nrm (xs (j ^^^ boW W r))) (2 ^ (2 * W)) = sI (fun j => (spC y k (smW W r j)).natAbs * nrm (xs j)) (2 ^ (2 * W)) := by
    rw [← sI_x (2 * W) (boW W r) (fun j => ((spC y k (smW W r j)).natAbs : Int) * nrm (xs j)) bl]
    refine sI_ext _ fun j hj => ?_
    have e : smW W r (j ^^^ boW W r) = smW W r j := by
      unfold smW
      rw [(bo_f hW hr hj).2.2.2.1]
    show _ = ((spC y k (smW W r (j ^^^ boW W r))).natAbs : Int) * nrm (xs (j ^^^ boW W r))
    rw [e]
  rw [s2, ← sI_add] at s1
  have s3 : sI (fun j => (spS y k (smW W r j)).natAbs * nrm (xs j) + (spC y k (smW W r j)).natAbs * nrm (xs j)) (2 ^ (2 * W)) ≤ Q * sI (fun j => nrm (xs j)) (2 ^ (2 * W)) := by
    rw [← sI_mul]
    refine sI_le _ fun j _ => ?_
    rw [← Int.add_mul]
    exact Int.mul_le_mul_of_nonneg_right (hb j) (nrm0 _)
  rw [Int.mul_assoc]
  exact Int.le_trans s1 (Int.mul_le_mul_of_nonneg_left s3 q0)
/-- the powers that were added: two by each h, at most twelve by each SPOIL -/
def de_k (M : mm_M) (K : Nat) : Prop := ∃ a b, a ≤ 24 ∧ b ≤ 6 ∧ M.1 104 2 = nI a ∧ M.1 104 3 = nI b ∧ K ≤ 2 * a + 12 * b
def de_z (M : mm_M) : Prop := (M.1 104 1 = 0 ∧ M.1 108 88 = -1) ∨ ∃ w k xs, de_d M w k xs ∧ de_k M k
def okP (w : Int32) (p q s : Int32) : Prop := (¬ p < 0 ∧ ¬ w ≤ p) ∧ (¬ q < 0 ∧ ¬ 3 < q) ∧ ¬ s < 1 ∧ s ≤ 16
theorem okP_n {W : Nat} {p q s : Int32} (hW : W ≤ 3) (h : okP (nI W) p q s) : ∃ r y k, p = nI r ∧ r < W ∧ q = nI y ∧ y < 4 ∧ s = nI k ∧ k < 17 := by
  obtain ⟨⟨h1, h2⟩, ⟨h3, h4⟩, h5, h6⟩ := h
  obtain ⟨r, r1, rfl⟩ := nI_of h1
  obtain ⟨y, y1, rfl⟩ := nI_of h3
  have s0 : ¬ s < 0 := fun c => h5 (neg_l (k := 1) c (by decide))
  obtain ⟨k, k1, rfl⟩ := nI_of s0
  refine ⟨r, y, k, rfl, ?_, rfl, ?_, rfl, ?_⟩
  · apply Decidable.byContradiction
    intro c
    exact h2 (nI_le (by omega) r1)
  · apply Decidable.byContradiction
    intro c
    exact h4 (nI_lt (a := 3) (by omega) y1)
  · apply Decidable.byContradiction
    intro c
    exact nI_ge (a := 16) (by omega) k1 h6
set_option maxRecDepth 100000 in
theorem soX_g {p q s : Int32} {Pp : am_Q} (hno : ¬ okP (M.1 104 1) p q s → Pp (.inl (some (aI 0))) M) (hyes : okP (M.1 104 1) p q s → ∀ X, am_K (d + 2) false nm_X11_spoil Pp X → X 37 [some (aR 0), some (aI p), some (aI q), some (aI s)] [] M) : am_M (d + 3) false nm_X11_spoil [aR 0, aI p, aI q, aI s] M Pp := by
  refine ⟨rfl, rfl, rfl, fun X hX => am_run hX 2 _ _ _ _ ?_⟩
  have no : ¬ okP (M.1 104 1) p q s → X 35 [some (aR 0), some (aI p), some (aI q), some (aI s)] [] M := fun h => by
    refine am_run hX 2 _ _ _ _ ?_
    conv => whnf
    exact ⟨rfl, hno h⟩
  conv => whnf
  refine ⟨fun c => no fun h => h.1.1 c, fun c1 => ?_⟩
  refine am_run hX 5 _ _ _ _ ?_
  conv => whnf
  refine ⟨fun c => no fun h => h.1.2 c, fun c2 => ?_⟩
  refine am_run hX 2 _ _ _ _ ?_
  conv => whnf
  refine ⟨fun c => no fun h => h.2.1.1 c, fun c3 => ?_⟩
  refine am_run hX 3 _ _ _ _ ?_
  conv => whnf
  refine ⟨fun c => no fun h => h.2.1.2 c, fun c4 => ?_⟩
  refine am_run hX 3 _ _ _ _ ?_
  conv => whnf
  refine ⟨fun c => no fun h => h.2.2.1 c, fun c5 => ?_⟩
  refine am_run hX 3 _ _ _ _ ?_
  conv => whnf
  refine ⟨fun c6 => ?_, fun c => no fun h => c h.2.2.2⟩
  exact hyes ⟨⟨c1, c2⟩, ⟨c3, c4⟩, c5, c6⟩ X hX
set_option maxRecDepth 100000 in
theorem soX_1 {K b : Nat} (h : de_d M W K xs) (hr : r < W) (hy : y < 4) (hk : k < 17) (hb : M.1 104 3 = nI b) (b6 : b < 6) (ho : okP (nI W) (nI r) (nI y) (nI k)) : am_M (d + 3) false nm_X11_spoil [aR 0, aI (nI r), aI (nI y), aI (nI k)] M (am_q1 (aI 1) (spM M (2 ^ (2 * W)) b (K + spQ y) (spN W r y k xs))) := by
  have e4 := h.2.2.2.1
  refine soX_g (d := d) (fun z => absurd (by rw [e4]; exact ho) z) (fun _ X hX => ?_)
  refine am_run hX 8 _ _ _ _ ?_
  conv => whnf
  rw [sh2 r (by have := h.2.1; omega)]
  refine am_c1 (ct_spW (d := d) h hr hy hk hb b6) ?_
  conv => whnf
  refine am_run hX 1 _ _ _ _ ?_
  conv => whnf
  exact ⟨rfl, rfl, rfl⟩
set_option maxRecDepth 100000 in
theorem soX_0 {p q s : Int32} (h : ¬ okP (M.1 104 1) p q s ∨ M.1 104 3 = nI 6) : am_M (d + 3) false nm_X11_spoil [aR 0, aI p, aI q, aI s] M (am_q1 (aI 0) M) := by
  refine soX_g (d := d) (fun _ => ⟨rfl, rfl⟩) (fun ho X hX => ?_)
  have h6 := h.resolve_left fun z => z ho
  have key : ∀ v, am_M (d + 2) false nm_X1_spoilWire [aR 104, aI v, aI q, aI s] M (am_q1 (aI 0) M) := fun v => by
    refine ⟨rfl, rfl, rfl, fun X hX => am_run hX 4 _ _ _ _ ?_⟩
    conv => whnf
    rw [h6]
    refine ⟨fun c => absurd c (by decide), fun _ => ?_⟩
    refine am_run hX 2 _ _ _ _ ?_
    conv => whnf
    exact ⟨rfl, rfl, rfl⟩
  refine am_run hX 8 _ _ _ _ ?_
  conv => whnf
  refine am_c1 (key _) ?_
  conv => whnf
  refine am_run hX 1 _ _ _ _ ?_
  conv => whnf
  exact ⟨rfl, rfl, rfl⟩
end SPZ
