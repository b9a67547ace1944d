/-! spoil, the class: a WIRE -/
def boW (W r : Nat) : Nat := 2 ^ r ||| 2 ^ r * 2 ^ W
/-- the one of a pair that comes first -/
def rpW (W r j : Nat) : Nat := if j &&& 2 ^ r = 0 then j else j ^^^ boW W r
def smW (W r j : Nat) : Bool := decide (rpW W r j &&& boW W r = 0)
def boB (W r c : Nat) : Bool := decide (c ^^^ boW W r < 2 ^ (2 * W)) && (decide ((c ^^^ boW W r) ^^^ boW W r = c) && (decide (c ^^^ boW W r ≠ c) && (decide (rpW W r (c ^^^ boW W r) = rpW W r c) && (decide (rpW W r c < 2 ^ (2 * W)) && (decide (rpW W r c &&& 2 ^ r = 0) && (decide ((rpW W r c = c ∨ rpW W r c = c ^^^ boW W r))))))))
theorem bo_all : ∀ W, W < 4 → ∀ r, r < W → ∀ c, c < 2 ^ (2 * W) → boB W r c = true := by decide +kernel
theorem bo_f {W r c : Nat} (hW : W ≤ 3) (hr : r < W) (hc : c < 2 ^ (2 * W)) : c ^^^ boW W r < 2 ^ (2 * W) ∧ (c ^^^ boW W r) ^^^ boW W r = c ∧ c ^^^ boW W r ≠ c ∧ rpW W r (c ^^^ boW W r) = rpW W r c ∧ rpW W r c < 2 ^ (2 * W) ∧ rpW W r c &&& 2 ^ r = 0 ∧ (rpW W r c = c ∨ rpW W r c = c ^^^ boW W r) := by
  have h := bo_all W (by omega) r hr c hc
  simp only [boB, Bool.and_eq_true, decide_eq_true_eq] at h
  exact h
/-- SPOILT numbers -/
def spN (W r y k : Nat) (xs : Nat → R4) (j : Nat) : R4 := lin (spS y k (smW W r j)) (xs j) (spC y k (smW W r j)) (xs (j ^^^ boW W r))
def spI (W r y k : Nat) (xs : Nat → R4) (i j : Nat) : R4 := if rpW W r j < i then spN W r y k xs j else xs j
def spQ (y : Nat) : Nat := if y = 0 then 12 else 8
section SPW
variable {d W r y k : Nat} {M : mm_M} {xs : Nat → R4} {g : Nat → Int64}
theorem sp_no (hW : W ≤ 3) (hr : r < W) {i j : Nat} (hi : i < 2 ^ (2 * W)) (hj : j < 2 ^ (2 * W)) (h : ¬ i &&& 2 ^ r = 0) : spI W r y k xs (i + 1) j = spI W r y k xs i j := by
  have a := bo_f hW hr hj
  unfold spI
  have : rpW W r j ≠ i := fun e => h (by rw [← e]; exact a.2.2.2.2.2.1)
  by_cases c : rpW W r j < i
  · rw [if_pos c, if_pos (by omega)]
  · rw [if_neg c, if_neg (by omega)]
theorem sp_st (hW : W ≤ 3) (hr : r < W) {i j : Nat} (hi : i < 2 ^ (2 * W)) (hj : j < 2 ^ (2 * W)) (h : i &&& 2 ^ r = 0) : spX (spI W r y k xs i) i (i ^^^ boW W r) (spS y k (smW W r i)) (spC y k (smW W r i)) j = spI W r y k xs (i + 1) j := by
  obtain ⟨b1, b2, b3, b4, b5, b6, b7⟩ := bo_f hW hr hi
  have ri : rpW W r i = i := if_pos h
  have e1 : spI W r y k xs i i = xs i := if_neg (by omega)
  have e2 : spI W r y k xs i (i ^^^ boW W r) = xs (i ^^^ boW W r) := if_neg (by omega)
  have sm : smW W r (i ^^^ boW W r) = smW W r i := by
    unfold smW
    rw [b4]
  unfold spX
  by_cases ja : j = i
  · rw [if_pos ja, e1, e2, ja]
    exact (if_pos (by omega)).symm
  · rw [if_neg ja]
    by_cases jb : j = i ^^^ boW W r
    · rw [if_pos jb, e1, e2, jb]
      unfold spI
      rw [if_pos (by omega)]
      unfold spN
      rw [sm, b2]
    · rw [if_neg jb]
      obtain ⟨c1, c2, c3, c4, c5, c6, c7⟩ := bo_f hW hr hj
      have ne : rpW W r j ≠ i := fun e => by
        rcases c7 with q | q
        · exact ja (by omega)
        · exact jb (by rw [← e, q, c2])
      unfold spI
      by_cases c : rpW W r j < i
      · rw [if_pos c, if_pos (by omega)]
      · rw [if_neg c, if_neg (by omega)]
set_option maxRecDepth 100000 in
theorem spw_l {Pp : am_Q} {X : am_X} (hX : am_K (d + 1) false nm_X1_spoilWire Pp X) (hW : W ≤ 3) (hr : r < W) (hy : y < 4) (hk : k < 17) (h2 : M.1 105 2 = nI (2 ^ (2 * W))) (hK : ∀ l6, X 103 [some (aR 104), some (aI (nI (2 ^ r))), some (aI (nI y)), some (aI (nI k)), some (aI (nI (boW W r))), some (aI (nI (2 ^ (2 * W)))), l6] [] (mm_l M 107 (cq g (2 ^ (2 * W)) (spN W r y k xs)))) : ∀ m i l6, i + m = 2 ^ (2 * W) → X 34 [some (aR 104), some (aI (nI (2 ^ r))), some (aI (nI y)), some (aI (nI k)), some (aI (nI (boW W r))), some (aI (nI i)), l6] [] (mm_l M 107 (cq g (2 ^ (2 * W)) (spI W r y k xs i))) := by
  have h64 := w64 hW
  intro m
  induction m with
  | zero =>
    intro i l6 hi
    have hi : i = 2 ^ (2 * W) := by omega
    subst hi
    have e : cq g (2 ^ (2 * W)) (spI W r y k xs (2 ^ (2 * W))) = cq g (2 ^ (2 * W)) (spN W r y k xs) := cq_e fun j hj => if_pos (bo_f hW hr hj).2.2.2.2.1
    rw [e]
    refine am_run hX 5 _ _ _ _ ?_
    conv => whnf
    rw [show (mm_l M 107 (cq g (2 ^ (2 * W)) (spN W r y k xs))).1 105 2 = nI (2 ^ (2 * W)) from h2]
    exact ⟨fun _ => hK _, fun c => absurd (nI_le (by omega) (by omega)) c⟩
  | succ m ih =>
    intro i l6 hi
    have hi' : i < 2 ^ (2 * W) := by omega
    obtain ⟨b1, b2, b3, b4, b5, b6, b7⟩ := bo_f hW hr hi'
    have al : ∀ z, i &&& z < 64 := fun z => Nat.lt_of_le_of_lt Nat.and_le_left (by omega)
    refine am_run hX 5 _ _ _ _ ?_
    conv => whnf
    rw [show (mm_l M 107 (cq g (2 ^ (2 * W)) (spI W r y k xs i))).1 105 2 = nI (2 ^ (2 * W)) from h2]
    refine ⟨fun c => absurd c (nI_ge (by omega) (by omega)), fun _ => ?_⟩
    refine am_run hX 4 _ _ _ _ ?_
    conv => whnf
    rw [nI_and]
    by_cases c0 : i &&& 2 ^ r = 0
    · refine ⟨fun c => absurd (by rw [c0]; rfl) c, fun _ => ?_⟩
      have ri : rpW W r i = i := if_pos c0
      have go : X 66 [some (aR 104), some (aI (nI (2 ^ r))), some (aI (nI y)), some (aI (nI k)), some (aI (nI (boW W r))), some (aI (nI i)), l6] [aI (bI (smW W r i))] (mm_l M 107 (cq g (2 ^ (2 * W)) (spI W r y k xs i))) := by
        refine am_run hX 14 _ _ _ _ ?_
        conv => whnf
        refine am_c1 (ct_stays (d := d) hy hk) ?_
        conv => whnf
        refine am_run hX 4 _ _ _ _ ?_
        conv => whnf
        refine am_c1 (ct_comes (d := d) hy hk) ?_
        conv => whnf
        refine am_run hX 1 _ _ _ _ ?_
        conv => whnf
        rw [nI_xor, show (4 : Int32) = nI 4 from rfl, nI_mul, nI_mul]
        obtain ⟨q1, q2⟩ := sp_e y hy k hk (smW W r i)
        refine am_c0 (ct_spair (d := d) q1 q2 hi' b1 (fun z => b3 z.symm) h64) ?_
        conv => whnf
        refine am_run hX 2 _ _ _ _ ?_
        conv => whnf
        rw [nI_1]
        have e : cq g (2 ^ (2 * W)) (spX (spI W r y k xs i) i (i ^^^ boW W r) (spS y k (smW W r i)) (spC y k (smW W r i))) = cq g (2 ^ (2 * W)) (spI W r y k xs (i + 1)) := cq_e fun j hj => sp_st hW hr hi' hj c0
        rw [e]
        exact ih (i + 1) _ (by omega)
      refine am_run hX 4 _ _ _ _ ?_
      conv => whnf
      rw [nI_and]
      by_cases c1 : i &&& boW W r = 0
      · have e : smW W r i = true := decide_eq_true (by rw [ri]; exact c1)
        rw [e] at go
        refine ⟨fun c => absurd (by rw [c1]; rfl) c, fun _ => ?_⟩
        refine am_run hX 2 _ _ _ _ ?_
        conv => whnf
        exact go
      · have e : smW W r i = false := decide_eq_false (by rw [ri]; exact c1)
        rw [e] at go
        refine ⟨fun _ => ?_, fun c => absurd (fun z => c1 ((nI_eq (b := 0) (by have := al (boW W r); omega) (by decide)).mp z)) c⟩
        refine am_run hX 1 _ _ _ _ ?_
        conv => whnf
        exact go
    · refine ⟨fun _ => ?_, fun c => absurd (fun z => c0 ((nI_eq (b := 0) (by have := al (2 ^ r); omega) (by decide)).mp z)) c⟩
      refine am_run hX 2 _ _ _ _ ?_
      conv => whnf
      rw [nI_1]
      have e : cq g (2 ^ (2 * W)) (spI W r y k xs i) = cq g (2 ^ (2 * W)) (spI W r y k xs (i + 1)) := cq_e fun j hj => (sp_no hW hr hi' hj c0).symm
      rw [e]
      exact ih (i + 1) _ (by omega)
theorem bo_i : ∀ W, W < 4 → ∀ r, r < W → nI (2 ^ r) ||| (nI (2 ^ r) <<< (nI W &&& 31)) = nI (boW W r) := by decide +kernel
/-- what spoil writes at the class -/
def spM (M : mm_M) (N b q : Nat) (ys : Nat → R4) : mm_M := mm_i (mm_l (mm_i M 104 (upd (M.1 104) 3 (nI (b + 1)))) 107 (cq (M.2 107) N ys)) 105 (upd (M.1 105) 3 (nI q))
set_option maxRecDepth 100000 in
theorem ct_spW {K b : Nat} (h : de_d M W K xs) (hr : r < W) (hy : y < 4) (hk : k < 17) (hb : M.1 104 3 = nI b) (b6 : b < 6) : am_M (d + 2) false nm_X1_spoilWire [aR 104, aI (nI (2 ^ r)), aI (nI y), aI (nI k)] M (am_q1 (aI 1) (spM M (2 ^ (2 * W)) b (K + spQ y) (spN W r y k xs))) := by
  have hW := h.2.1
  have k120 := h.2.2.1
  refine ⟨rfl, rfl, rfl, fun X hX => am_run hX 4 _ _ _ _ ?_⟩
  conv => whnf
  rw [hb]
  refine ⟨fun _ => ?_, fun c => absurd (nI_lt (b := 6) b6 (by decide)) c⟩
  refine am_run hX 6 _ _ _ _ ?_
  conv => whnf
  rw [hb, nI_1]
  refine am_run hX 9 _ _ _ _ ?_
  conv => whnf
  rw [show (mm_i M 104 (upd (M.1 104) 3 (nI (b + 1)))).1 104 1 = nI W from h.2.2.2.1, bo_i W (by omega) r hr]
  have e0 : spI W r y k xs 0 = xs := funext fun j => if_neg (Nat.not_lt_zero _)
  have key := spw_l (d := d) (M := mm_i M 104 (upd (M.1 104) 3 (nI (b + 1)))) (g := M.2 107) (xs := xs) hX hW hr hy hk h.2.2.2.2.2.1 (fun l6 => ?_) (2 ^ (2 * W)) 0 none (by omega)
  · rw [e0, ← cq_of (M := M) (c := 107) h.2.2.2.2.2.2.2.2.2.1] at key
    have e1 : mm_l (mm_i M 104 (upd (M.1 104) 3 (nI (b + 1)))) 107 (M.2 107) = mm_i M 104 (upd (M.1 104) 3 (nI (b + 1))) := mm_lz _ _
    rw [e1] at key
    exact key
  · have fin : ∀ q, q = spQ y → X 122 [some (aR 104), some (aI (nI (2 ^ r))), some (aI (nI y)), some (aI (nI k)), some (aI (nI (boW W r))), some (aI (nI (2 ^ (2 * W)))), l6] [aI (nI q), aI (nI K), aR 105] (mm_l (mm_i M 104 (upd (M.1 104) 3 (nI (b + 1)))) 107 (cq (M.2 107) (2 ^ (2 * W)) (spN W r y k xs))) := fun q hq => by
      refine am_run hX 4 _ _ _ _ ?_
      conv => whnf
      rw [nI_add, hq]
      exact ⟨rfl, rfl, rfl⟩
    refine am_run hX 6 _ _ _ _ ?_
    conv => whnf
    rw [show (mm_l (mm_i M 104 (upd (M.1 104) 3 (nI (b + 1)))) 107 (cq (M.2 107) (2 ^ (2 * W)) (spN W r y k xs))).1 105 3 = nI K from h.2.2.2.2.2.2.1]
    by_cases y0 : y = 0
    · refine ⟨fun c => absurd (by rw [y0]; rfl) c, fun _ => ?_⟩
      refine am_run hX 2 _ _ _ _ ?_
      conv => whnf
      exact fin 12 (if_pos y0).symm
    · refine ⟨fun _ => ?_, fun c => absurd (fun z => y0 ((nI_eq (b := 0) (by omega) (by decide)).mp z)) c⟩
      refine am_run hX 1 _ _ _ _ ?_
      conv => whnf
      exact fin 8 (if_neg y0).symm
end SPW
