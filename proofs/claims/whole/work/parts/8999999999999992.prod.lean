/-! PRODUCTS of SUMS: sums of longs; the class's gather, gatherProduct -/
def sumJ (h : Nat → Int64) : Nat → Int64
  | 0 => 0
  | n + 1 => sumJ h n + h n
theorem sumJ_c {h h' : Nat → Int64} : ∀ n, (∀ j, j < n → h j = h' j) → sumJ h n = sumJ h' n
  | 0, _ => rfl
  | n + 1, e => by
    show sumJ h n + h n = sumJ h' n + h' n
    rw [sumJ_c n fun j hj => e j (by omega), e n (by omega)]
theorem sumJ_0 {h : Nat → Int64} : ∀ n, (∀ j, j < n → h j = 0) → sumJ h n = 0
  | 0, _ => rfl
  | n + 1, e => by
    show sumJ h n + h n = 0
    rw [sumJ_0 n fun j hj => e j (by omega), e n (by omega)]
    rfl
theorem sumJ_z {h : Nat → Int64} {m : Nat} : ∀ n, (∀ j, m ≤ j → j < m + n → h j = 0) → sumJ h (m + n) = sumJ h m
  | 0, _ => rfl
  | n + 1, e => by
    show sumJ h (m + n) + h (m + n) = sumJ h m
    rw [sumJ_z n fun j h1 h2 => e j h1 (by omega), e (m + n) (by omega) (by omega), Int64.add_zero]
theorem sumJ_a {h h' : Nat → Int64} : ∀ n, sumJ (fun j => h j + h' j) n = sumJ h n + sumJ h' n
  | 0 => rfl
  | n + 1 => by
    show sumJ (fun j => h j + h' j) n + (h n + h' n) = (sumJ h n + h n) + (sumJ h' n + h' n)
    rw [sumJ_a n, Int64.add_assoc, Int64.add_assoc, ← Int64.add_assoc (sumJ h' n), Int64.add_comm (sumJ h' n) (h n), Int64.add_assoc]
/-- sums in the other order -/
theorem sumJ_s {h : Nat → Nat → Int64} {m : Nat} : ∀ n, sumJ (fun i => sumJ (fun j => h i j) m) n = sumJ (fun j => sumJ (fun i => h i j) n) m
  | 0 => (sumJ_0 m fun _ _ => rfl).symm
  | n + 1 => by
    show sumJ (fun i => sumJ (fun j => h i j) m) n + sumJ (fun j => h n j) m = sumJ (fun j => sumJ (fun i => h i j) n + h n j) m
    rw [sumJ_s n, sumJ_a]
/-- factors i of a product of two PAULIS (keys) -/
def tq (x y : Nat) : Nat := qp (x / 256, x % 256, 0) (y / 256, y % 256, 0)
theorem tq_lt (x y : Nat) : tq x y < 4 := Nat.mod_lt _ (by decide)
def rtP (k : Nat) (m n : Int64) : Int64 := if k = 0 then m else if k = 1 then -n else if k = 2 then -m else n
def rtQ (k : Nat) (m n : Int64) : Int64 := if k = 0 then n else if k = 1 then m else if k = 2 then -n else -m
def pmM (S T : SU) (i j : Nat) : Int64 := (S.2.2.2.1 i).toInt64 * (T.2.2.2.1 j).toInt64 - (S.2.2.2.2 i).toInt64 * (T.2.2.2.2 j).toInt64
def pmN (S T : SU) (i j : Nat) : Int64 := (S.2.2.2.1 i).toInt64 * (T.2.2.2.2 j).toInt64 + (S.2.2.2.2 i).toInt64 * (T.2.2.2.1 j).toInt64
def tP (S T : SU) (i j : Nat) : Int64 := rtP (tq (S.2.2.1 i) (T.2.2.1 j)) (pmM S T i j) (pmN S T i j)
def tQ (S T : SU) (i j : Nat) : Int64 := rtQ (tq (S.2.2.1 i) (T.2.2.1 j)) (pmM S T i j) (pmN S T i j)
section GTH
variable {d : Nat} {M : mm_M}
def gaM (M : mm_M) (z : Nat) (p r : Int64) : mm_M := mm_l (mm_l M 101 (vp_updL (M.2 101) z (M.2 101 z + p))) 102 (vp_updL (M.2 102) z (M.2 102 z + r))
set_option maxRecDepth 100000 in
theorem ct_gather {z : Nat} {p r : Int64} (hz : z < 256) : am_M (d + 1) false nm_X9_gather [aR 83, aI (nI z), aJ p, aJ r] M (am_q0 (gaM M z p r)) := by
  have hin : vp_in (nI z) 256 := vp_in_nI hz (by decide)
  refine ⟨rfl, rfl, rfl, fun X hX => am_run hX 60 _ _ _ _ ?_⟩
  conv => whnf
  iterate 4
    refine ⟨hin, ?_⟩
    conv => whnf
  rw [nI_clamp (n := z) (by omega)]
  exact ⟨trivial, rfl, rfl⟩
/-- which rows are multiplied -/
def prR (lr lp rr rp : Nat) : Prop := (lr = 0 ∧ lp = 0 ∧ rr = 1 ∧ rp = 1) ∨ (lr = 0 ∧ lp = 1 ∧ rr = 1 ∧ rp = 0) ∨ (lr = 1 ∧ lp = 1 ∧ rr = 0 ∧ rp = 0) ∨ (lr = 1 ∧ lp = 0 ∧ rr = 0 ∧ rp = 1) ∨ (lr = 0 ∧ lp = 0 ∧ rr = 2 ∧ rp = 2) ∨ (lr = 0 ∧ lp = 1 ∧ rr = 2 ∧ rp = 2)
/-- the rows of two SUMS stand so -/
def prM (M : mm_M) (lr lp rr rp : Nat) : Prop := (M.1 84 lr = nI lp ∧ M.1 88 lr = nI lp ∧ M.1 92 lr = nI lp) ∧ (M.1 84 rr = nI rp ∧ M.1 88 rr = nI rp ∧ M.1 92 rr = nI rp)
set_option maxRecDepth 100000 in
theorem gp_0 {lr lp rr rp i j : Nat} {S T : SU} {Pp : am_Q} {X : am_X} (hX : am_K (d + 2) false nm_X9_gatherProduct Pp X) (hc : prR lr lp rr rp) (hM : prM M lr lp rr rp) (h1 : csS M lp lr S) (h2 : csS M rp rr T) (oS : orS S) (oT : orS T) (hi : i < S.1) (hj : j < T.1) (hK : X 32 [some (aR 83), some (aI (nI lr)), some (aI (nI i)), some (aI (nI rr)), some (aI (nI j)), some (aI (nI (S.2.2.1 i))), some (aI (nI (T.2.2.1 j))), some (aI (nI ((S.2.2.1 i ^^^ T.2.2.1 j) % 256))), none, none, none, none] [] M) : X 0 [some (aR 83), some (aI (nI lr)), some (aI (nI i)), some (aI (nI rr)), some (aI (nI j)), none, none, none, none, none, none, none] [] M := by
  have b : lr < 3 ∧ lp < 3 ∧ rr < 3 ∧ rp < 3 := by
    unfold prR at hc
    omega
  have u1 := oS.1
  have u2 := oT.1
  have eL1 : M.1 84 (nI lr).toNatClampNeg = nI lp := by rw [nI_clamp (by omega)]; exact hM.1.1
  have eL2 : M.1 88 (nI lr).toNatClampNeg = nI lp := by rw [nI_clamp (by omega)]; exact hM.1.2.1
  have eL3 : M.1 92 (nI lr).toNatClampNeg = nI lp := by rw [nI_clamp (by omega)]; exact hM.1.2.2
  have eR1 : M.1 84 (nI rr).toNatClampNeg = nI rp := by rw [nI_clamp (by omega)]; exact hM.2.1
  have eR2 : M.1 88 (nI rr).toNatClampNeg = nI rp := by rw [nI_clamp (by omega)]; exact hM.2.2.1
  have eR3 : M.1 92 (nI rr).toNatClampNeg = nI rp := by rw [nI_clamp (by omega)]; exact hM.2.2.2
  have vL1 : M.1 (84 + 1 + (nI lp).toNatClampNeg) (nI i).toNatClampNeg = nI (S.2.2.1 i) := by rw [nI_clamp (n := lp) (by omega), nI_clamp (n := i) (by omega)]; exact (h1.2.2 i hi).1
  have vL2 : M.1 (88 + 1 + (nI lp).toNatClampNeg) (nI i).toNatClampNeg = S.2.2.2.1 i := by rw [nI_clamp (n := lp) (by omega), nI_clamp (n := i) (by omega)]; exact (h1.2.2 i hi).2.1
  have vL3 : M.1 (92 + 1 + (nI lp).toNatClampNeg) (nI i).toNatClampNeg = S.2.2.2.2 i := by rw [nI_clamp (n := lp) (by omega), nI_clamp (n := i) (by omega)]; exact (h1.2.2 i hi).2.2
  have vR1 : M.1 (84 + 1 + (nI rp).toNatClampNeg) (nI j).toNatClampNeg = nI (T.2.2.1 j) := by rw [nI_clamp (n := rp) (by omega), nI_clamp (n := j) (by omega)]; exact (h2.2.2 j hj).1
  have vR2 : M.1 (88 + 1 + (nI rp).toNatClampNeg) (nI j).toNatClampNeg = T.2.2.2.1 j := by rw [nI_clamp (n := rp) (by omega), nI_clamp (n := j) (by omega)]; exact (h2.2.2 j hj).2.1
  have vR3 : M.1 (92 + 1 + (nI rp).toNatClampNeg) (nI j).toNatClampNeg = T.2.2.2.2 j := by rw [nI_clamp (n := rp) (by omega), nI_clamp (n := j) (by omega)]; exact (h2.2.2 j hj).2.2
  have hL : vp_in (nI lr) 3 := vp_in_nI (by omega) (by decide)
  have hR : vp_in (nI rr) 3 := vp_in_nI (by omega) (by decide)
  have hI : vp_in (nI i) 150 := vp_in_nI (by omega) (by decide)
  have hJ : vp_in (nI j) 150 := vp_in_nI (by omega) (by decide)
  clear h1 h2 oS oT hi hj hM
  rcases hc with ⟨rfl, rfl, rfl, rfl⟩ | ⟨rfl, rfl, rfl, rfl⟩ | ⟨rfl, rfl, rfl, rfl⟩ | ⟨rfl, rfl, rfl, rfl⟩ | ⟨rfl, rfl, rfl, rfl⟩ | ⟨rfl, rfl, rfl, rfl⟩
  all_goals (
    refine am_run hX 20 _ _ _ _ ?_
    conv => whnf
    rw [eL1]
    refine ⟨⟨hL, by decide⟩, ?_⟩
    conv => whnf
    refine ⟨hI, ?_⟩
    conv => whnf
    rw [eR1]
    refine ⟨⟨hR, by decide⟩, ?_⟩
    conv => whnf
    refine ⟨hJ, ?_⟩
    conv => whnf
    rw [vL1, vR1, nI_xor, nI_m255]
    exact hK)
set_option maxRecDepth 100000 in
theorem gp_1 {lr lp rr rp i j : Nat} {S T : SU} {Pp : am_Q} {X : am_X} (hX : am_K (d + 2) false nm_X9_gatherProduct Pp X) (hc : prR lr lp rr rp) (hM : prM M lr lp rr rp) (h1 : csS M lp lr S) (h2 : csS M rp rr T) (oS : orS S) (oT : orS T) (hi : i < S.1) (hj : j < T.1) (hK : X 75 [some (aR 83), some (aI (nI lr)), some (aI (nI i)), some (aI (nI rr)), some (aI (nI j)), some (aI (nI (S.2.2.1 i))), some (aI (nI (T.2.2.1 j))), some (aI (nI ((S.2.2.1 i ^^^ T.2.2.1 j) % 256))), some (aJ (pmM S T i j)), none, none, none] [] M) : X 32 [some (aR 83), some (aI (nI lr)), some (aI (nI i)), some (aI (nI rr)), some (aI (nI j)), some (aI (nI (S.2.2.1 i))), some (aI (nI (T.2.2.1 j))), some (aI (nI ((S.2.2.1 i ^^^ T.2.2.1 j) % 256))), none, none, none, none] [] M := by
  have b : lr < 3 ∧ lp < 3 ∧ rr < 3 ∧ rp < 3 := by
    unfold prR at hc
    omega
  have u1 := oS.1
  have u2 := oT.1
  have eL1 : M.1 84 (nI lr).toNatClampNeg = nI lp := by rw [nI_clamp (by omega)]; exact hM.1.1
  have eL2 : M.1 88 (nI lr).toNatClampNeg = nI lp := by rw [nI_clamp (by omega)]; exact hM.1.2.1
  have eL3 : M.1 92 (nI lr).toNatClampNeg = nI lp := by rw [nI_clamp (by omega)]; exact hM.1.2.2
  have eR1 : M.1 84 (nI rr).toNatClampNeg = nI rp := by rw [nI_clamp (by omega)]; exact hM.2.1
  have eR2 : M.1 88 (nI rr).toNatClampNeg = nI rp := by rw [nI_clamp (by omega)]; exact hM.2.2.1
  have eR3 : M.1 92 (nI rr).toNatClampNeg = nI rp := by rw [nI_clamp (by omega)]; exact hM.2.2.2
  have vL1 : M.1 (84 + 1 + (nI lp).toNatClampNeg) (nI i).toNatClampNeg = nI (S.2.2.1 i) := by rw [nI_clamp (n := lp) (by omega), nI_clamp (n := i) (by omega)]; exact (h1.2.2 i hi).1
  have vL2 : M.1 (88 + 1 + (nI lp).toNatClampNeg) (nI i).toNatClampNeg = S.2.2.2.1 i := by rw [nI_clamp (n := lp) (by omega), nI_clamp (n := i) (by omega)]; exact (h1.2.2 i hi).2.1
  have vL3 : M.1 (92 + 1 + (nI lp).toNatClampNeg) (nI i).toNatClampNeg = S.2.2.2.2 i := by rw [nI_clamp (n := lp) (by omega), nI_clamp (n := i) (by omega)]; exact (h1.2.2 i hi).2.2
  have vR1 : M.1 (84 + 1 + (nI rp).toNatClampNeg) (nI j).toNatClampNeg = nI (T.2.2.1 j) := by rw [nI_clamp (n := rp) (by omega), nI_clamp (n := j) (by omega)]; exact (h2.2.2 j hj).1
  have vR2 : M.1 (88 + 1 + (nI rp).toNatClampNeg) (nI j).toNatClampNeg = T.2.2.2.1 j := by rw [nI_clamp (n := rp) (by omega), nI_clamp (n := j) (by omega)]; exact (h2.2.2 j hj).2.1
  have vR3 : M.1 (92 + 1 + (nI rp).toNatClampNeg) (nI j).toNatClampNeg = T.2.2.2.2 j := by rw [nI_clamp (n := rp) (by omega), nI_clamp (n := j) (by omega)]; exact (h2.2.2 j hj).2.2
  have hL : vp_in (nI lr) 3 := vp_in_nI (by omega) (by decide)
  have hR : vp_in (nI rr) 3 := vp_in_nI (by omega) (by decide)
  have hI : vp_in (nI i) 150 := vp_in_nI (by omega) (by decide)
  have hJ : vp_in (nI j) 150 := vp_in_nI (by omega) (by decide)
  clear h1 h2 oS oT hi hj hM
  rcases hc with ⟨rfl, rfl, rfl, rfl⟩ | ⟨rfl, rfl, rfl, rfl⟩ | ⟨rfl, rfl, rfl, rfl⟩ | ⟨rfl, rfl, rfl, rfl⟩ | ⟨rfl, rfl, rfl, rfl⟩ | ⟨rfl, rfl, rfl, rfl⟩
  all_goals (
    refine am_run hX 32 _ _ _ _ ?_
    conv => whnf
    rw [eL2]
    refine ⟨⟨hL, by decide⟩, ?_⟩
    conv => whnf
    refine ⟨hI, ?_⟩
    conv => whnf
    rw [eR2]
    refine ⟨⟨hR, by decide⟩, ?_⟩
    conv => whnf
    refine ⟨hJ, ?_⟩
    conv => whnf
    rw [eL3]
    refine ⟨⟨hL, by decide⟩, ?_⟩
    conv => whnf
    refine ⟨hI, ?_⟩
    conv => whnf
    rw [eR3]
    refine ⟨⟨hR, by decide⟩, ?_⟩
    conv => whnf
    refine ⟨hJ, ?_⟩
    conv => whnf
    rw [vL2, vR2, vL3, vR3]
    exact hK)
set_option maxRecDepth 100000 in
theorem gp_2 {lr lp rr rp i j : Nat} {S T : SU} {Pp : am_Q} {X : am_X} (hX : am_K (d + 2) false nm_X9_gatherProduct Pp X) (hc : prR lr lp rr rp) (hM : prM M lr lp rr rp) (h1 : csS M lp lr S) (h2 : csS M rp rr T) (oS : orS S) (oT : orS T) (hi : i < S.1) (hj : j < T.1) (hK : X 118 [some (aR 83), some (aI (nI lr)), some (aI (nI i)), some (aI (nI rr)), some (aI (nI j)), some (aI (nI (S.2.2.1 i))), some (aI (nI (T.2.2.1 j))), some (aI (nI ((S.2.2.1 i ^^^ T.2.2.1 j) % 256))), some (aJ (pmM S T i j)), none, some (aJ (pmN S T i j)), none] [] M) : X 75 [some (aR 83), some (aI (nI lr)), some (aI (nI i)), some (aI (nI rr)), some (aI (nI j)), some (aI (nI (S.2.2.1 i))), some (aI (nI (T.2.2.1 j))), some (aI (nI ((S.2.2.1 i ^^^ T.2.2.1 j) % 256))), some (aJ (pmM S T i j)), none, none, none] [] M := by
  have b : lr < 3 ∧ lp < 3 ∧ rr < 3 ∧ rp < 3 := by
    unfold prR at hc
    omega
  have u1 := oS.1
  have u2 := oT.1
  have eL1 : M.1 84 (nI lr).toNatClampNeg = nI lp := by rw [nI_clamp (by omega)]; exact hM.1.1
  have eL2 : M.1 88 (nI lr).toNatClampNeg = nI lp := by rw [nI_clamp (by omega)]; exact hM.1.2.1
  have eL3 : M.1 92 (nI lr).toNatClampNeg = nI lp := by rw [nI_clamp (by omega)]; exact hM.1.2.2
  have eR1 : M.1 84 (nI rr).toNatClampNeg = nI rp := by rw [nI_clamp (by omega)]; exact hM.2.1
  have eR2 : M.1 88 (nI rr).toNatClampNeg = nI rp := by rw [nI_clamp (by omega)]; exact hM.2.2.1
  have eR3 : M.1 92 (nI rr).toNatClampNeg = nI rp := by rw [nI_clamp (by omega)]; exact hM.2.2.2
  have vL1 : M.1 (84 + 1 + (nI lp).toNatClampNeg) (nI i).toNatClampNeg = nI (S.2.2.1 i) := by rw [nI_clamp (n := lp) (by omega), nI_clamp (n := i) (by omega)]; exact (h1.2.2 i hi).1
  have vL2 : M.1 (88 + 1 + (nI lp).toNatClampNeg) (nI i).toNatClampNeg = S.2.2.2.1 i := by rw [nI_clamp (n := lp) (by omega), nI_clamp (n := i) (by omega)]; exact (h1.2.2 i hi).2.1
  have vL3 : M.1 (92 + 1 + (nI lp).toNatClampNeg) (nI i).toNatClampNeg = S.2.2.2.2 i := by rw [nI_clamp (n := lp) (by omega), nI_clamp (n := i) (by omega)]; exact (h1.2.2 i hi).2.2
  have vR1 : M.1 (84 + 1 + (nI rp).toNatClampNeg) (nI j).toNatClampNeg = nI (T.2.2.1 j) := by rw [nI_clamp (n := rp) (by omega), nI_clamp (n := j) (by omega)]; exact (h2.2.2 j hj).1
  have vR2 : M.1 (88 + 1 + (nI rp).toNatClampNeg) (nI j).toNatClampNeg = T.2.2.2.1 j := by rw [nI_clamp (n := rp) (by omega), nI_clamp (n := j) (by omega)]; exact (h2.2.2 j hj).2.1
  have vR3 : M.1 (92 + 1 + (nI rp).toNatClampNeg) (nI j).toNatClampNeg = T.2.2.2.2 j := by rw [nI_clamp (n := rp) (by omega), nI_clamp (n := j) (by omega)]; exact (h2.2.2 j hj).2.2
  have hL : vp_in (nI lr) 3 := vp_in_nI (by omega) (by decide)
  have hR : vp_in (nI rr) 3 := vp_in_nI (by omega) (by decide)
  have hI : vp_in (nI i) 150 := vp_in_nI (by omega) (by decide)
  have hJ : vp_in (nI j) 150 := vp_in_nI (by omega) (by decide)
  clear h1 h2 oS oT hi hj hM
  generalize pmM S T i j = pm at *
  rcases hc with ⟨rfl, rfl, rfl, rfl⟩ | ⟨rfl, rfl, rfl, rfl⟩ | ⟨rfl, rfl, rfl, rfl⟩ | ⟨rfl, rfl, rfl, rfl⟩ | ⟨rfl, rfl, rfl, rfl⟩ | ⟨rfl, rfl, rfl, rfl⟩
  all_goals (
    refine am_run hX 32 _ _ _ _ ?_
    conv => whnf
    rw [eL2]
    refine ⟨⟨hL, by decide⟩, ?_⟩
    conv => whnf
    refine ⟨hI, ?_⟩
    conv => whnf
    rw [eR3]
    refine ⟨⟨hR, by decide⟩, ?_⟩
    conv => whnf
    refine ⟨hJ, ?_⟩
    conv => whnf
    rw [eL3]
    refine ⟨⟨hL, by decide⟩, ?_⟩
    conv => whnf
    refine ⟨hI, ?_⟩
    conv => whnf
    rw [eR2]
    refine ⟨⟨hR, by decide⟩, ?_⟩
    conv => whnf
    refine ⟨hJ, ?_⟩
    conv => whnf
    rw [vL2, vR2, vL3, vR3]
    exact hK)
set_option maxRecDepth 100000 in
theorem gp_s0 {Pp : am_Q} {X : am_X} {v1 v2 v3 v4 v5 v6 : Int32} {z : Nat} {p r : Int64} (hX : am_K (d + 1) false nm_X9_gatherProduct Pp X) (hz : z < 256) (hP : Pp (.inl none) (gaM M z (rtP 0 p r) (rtQ 0 p r))) : X 143 [some (aR 83), some (aI v1), some (aI v2), some (aI v3), some (aI v4), some (aI v5), some (aI v6), some (aI (nI z)), some (aJ p), none, some (aJ r), none] [aI (nI 0)] M := by
  refine am_run hX 12 _ _ _ _ ?_
  conv => whnf
  refine ⟨fun _ => ?_, fun c => absurd rfl c⟩
  conv => whnf
  refine am_c0 (ct_gather (d := d) hz) ?_
  conv => whnf
  exact ⟨trivial, hP⟩
set_option maxRecDepth 100000 in
theorem gp_s1 {Pp : am_Q} {X : am_X} {v1 v2 v3 v4 v5 v6 : Int32} {z : Nat} {p r : Int64} (hX : am_K (d + 1) false nm_X9_gatherProduct Pp X) (hz : z < 256) (hP : Pp (.inl none) (gaM M z (rtP 1 p r) (rtQ 1 p r))) : X 143 [some (aR 83), some (aI v1), some (aI v2), some (aI v3), some (aI v4), some (aI v5), some (aI v6), some (aI (nI z)), some (aJ p), none, some (aJ r), none] [aI (nI 1)] M := by
  refine am_run hX 12 _ _ _ _ ?_
  conv => whnf
  refine ⟨fun c => absurd c (by decide), fun _ => ?_⟩
  conv => whnf
  refine ⟨fun _ => ?_, fun c => absurd rfl c⟩
  conv => whnf
  refine am_c0 (ct_gather (d := d) hz) ?_
  conv => whnf
  exact ⟨trivial, hP⟩
set_option maxRecDepth 100000 in
theorem gp_s2 {Pp : am_Q} {X : am_X} {v1 v2 v3 v4 v5 v6 : Int32} {z : Nat} {p r : Int64} (hX : am_K (d + 1) false nm_X9_gatherProduct Pp X) (hz : z < 256) (hP : Pp (.inl none) (gaM M z (rtP 2 p r) (rtQ 2 p r))) : X 143 [some (aR 83), some (aI v1), some (aI v2), some (aI v3), some (aI v4), some (aI v5), some (aI v6), some (aI (nI z)), some (aJ p), none, some (aJ r), none] [aI (nI 2)] M := by
  refine am_run hX 12 _ _ _ _ ?_
  conv => whnf
  refine ⟨fun c => absurd c (by decide), fun _ => ?_⟩
  conv => whnf
  refine ⟨fun c => absurd c (by decide), fun _ => ?_⟩
  conv => whnf
  refine ⟨fun _ => ?_, fun c => absurd rfl c⟩
  conv => whnf
  refine am_c0 (ct_gather (d := d) hz) ?_
  conv => whnf
  exact ⟨trivial, hP⟩
set_option maxRecDepth 100000 in
theorem gp_s3 {Pp : am_Q} {X : am_X} {v1 v2 v3 v4 v5 v6 : Int32} {z : Nat} {p r : Int64} (hX : am_K (d + 1) false nm_X9_gatherProduct Pp X) (hz : z < 256) (hP : Pp (.inl none) (gaM M z (rtP 3 p r) (rtQ 3 p r))) : X 143 [some (aR 83), some (aI v1), some (aI v2), some (aI v3), some (aI v4), some (aI v5), some (aI v6), some (aI (nI z)), some (aJ p), none, some (aJ r), none] [aI (nI 3)] M := by
  refine am_run hX 12 _ _ _ _ ?_
  conv => whnf
  refine ⟨fun c => absurd c (by decide), fun _ => ?_⟩
  conv => whnf
  refine ⟨fun c => absurd c (by decide), fun _ => ?_⟩
  conv => whnf
  refine ⟨fun c => absurd c (by decide), fun _ => ?_⟩
  conv => whnf
  refine am_c0 (ct_gather (d := d) hz) ?_
  conv => whnf
  exact ⟨trivial, hP⟩
set_option maxRecDepth 100000 in
theorem gp_q {i j k : Nat} {S T : SU} {Pp : am_Q} {X : am_X} {v1 v2 v3 v4 : Int32} {p r : Int64} (hX : am_K (d + 2) false nm_X9_gatherProduct Pp X) (ha : i < 65536) (hb : j < 65536) (hk : k = tq i j) (hP : Pp (.inl none) (gaM M ((i ^^^ j) % 256) (rtP k p r) (rtQ k p r))) : X 118 [some (aR 83), some (aI v1), some (aI v2), some (aI v3), some (aI v4), some (aI (nI i)), some (aI (nI j)), some (aI (nI ((i ^^^ j) % 256))), some (aJ p), none, some (aJ r), none] [] M := by
  have hz : (i ^^^ j) % 256 < 256 := Nat.mod_lt _ (by decide)
  have kq : am_M (d + 2) false nm_X8_quartersOfProduct [aI (nI (i / 256)), aI (nI (i % 256)), aI (nI (j / 256)), aI (nI (j % 256))] M (am_q1 (aI (nI (tq i j))) M) := ct_quart (d := d) (M := M) (y := (i / 256, i % 256, 0)) (z := (j / 256, j % 256, 0)) ⟨by show i / 256 < 2 ^ 20; omega, by show i % 256 < 2 ^ 20; omega, by show 0 < 2; omega⟩ ⟨by show j / 256 < 2 ^ 20; omega, by show j % 256 < 2 ^ 20; omega, by show 0 < 2; omega⟩
  have hq4 := tq_lt i j
  rw [← hk] at kq hq4
  refine am_run hX 13 _ _ _ _ ?_
  conv => whnf
  rw [nI_s8 (by omega), nI_m255, nI_s8 (by omega), nI_m255]
  refine am_c1 kq ?_
  conv => whnf
  obtain rfl | rfl | rfl | rfl : k = 0 ∨ k = 1 ∨ k = 2 ∨ k = 3 := by omega
  · exact gp_s0 (d := d + 1) hX hz hP
  · exact gp_s1 (d := d + 1) hX hz hP
  · exact gp_s2 (d := d + 1) hX hz hP
  · exact gp_s3 (d := d + 1) hX hz hP
theorem ct_gp {lr lp rr rp i j : Nat} {S T : SU} (hc : prR lr lp rr rp) (hM : prM M lr lp rr rp) (h1 : csS M lp lr S) (h2 : csS M rp rr T) (oS : orS S) (oT : orS T) (hi : i < S.1) (hj : j < T.1) : am_M (d + 3) false nm_X9_gatherProduct [aR 83, aI (nI lr), aI (nI i), aI (nI rr), aI (nI j)] M (am_q0 (gaM M ((S.2.2.1 i ^^^ T.2.2.1 j) % 256) (tP S T i j) (tQ S T i j))) := by
  refine ⟨rfl, rfl, rfl, fun X hX => ?_⟩
  exact gp_0 (d := d) hX hc hM h1 h2 oS oT hi hj (gp_1 (d := d) hX hc hM h1 h2 oS oT hi hj (gp_2 (d := d) hX hc hM h1 h2 oS oT hi hj (gp_q (d := d) (S := S) (T := T) hX (oS.2.2.2 i hi) (oT.2.2.2 j hj) rfl ⟨rfl, rfl⟩)))
end GTH
