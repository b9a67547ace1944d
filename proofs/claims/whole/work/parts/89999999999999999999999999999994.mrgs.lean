/-! derive, MERGED: the reference counts, and asks whether it can -/
def cRk (z : Nat → bk_X) (k : Nat) : Nat := if (pSk z k).2 (z k).2.1 = true then (8 - egN (z k).1) % 8 else egN (z k).1
def toR (z : Nat → bk_X) (p : Nat) : Nat → Nat
  | 0 => 0
  | k + 1 => toR z p k + (if pyK z k = p then cRk z k else 0)
theorem toR_l (z : Nat → bk_X) (p : Nat) : ∀ k, toR z p k ≤ 7 * k
  | 0 => Nat.le_refl _
  | k + 1 => by
    have := toR_l z p k
    have := eg_7 (z k).1
    show toR z p k + (if pyK z k = p then cRk z k else 0) ≤ _
    unfold cRk
    split
    · split <;> omega
    · omega
theorem toR_e (z : Nat → bk_X) (p : Nat) : ∀ k, toR z p k % 8 = toS z p k % 8
  | 0 => rfl
  | k + 1 => by
    have ih := toR_e z p k
    have := eg_7 (z k).1
    show (toR z p k + (if pyK z k = p then cRk z k else 0)) % 8 = (toS z p k + (if phB (z k) = true ∧ pyK z k = p then cEk z k else 0)) % 8
    by_cases q : pyK z k = p
    · rw [if_pos q]
      by_cases h : phB (z k) = true
      · rw [if_pos ⟨h, q⟩]
        unfold cRk cEk
        by_cases t : (pSk z k).2 (z k).2.1 = true
        · rw [if_pos t, if_pos t]
          omega
        · rw [if_neg t, if_neg t]
          omega
      · have he : egN (z k).1 = 0 := Decidable.byContradiction (fun y => h (decide_eq_true y))
        have hc : cRk z k = 0 := by
          unfold cRk
          rw [he]
          split <;> rfl
        rw [if_neg (fun y => h y.1), hc]
        exact ih
    · rw [if_neg q, if_neg (fun y => q y.2)]
      exact ih
section MRS
variable {d : Nat} {M : mm_M} {W n c : Nat} {l : List bk_X}
theorem ops_r (hl : opsL M c W l) {j : Nat} (hj : j < l.length) : rfO M (300 * c + j) (zg l j) := by
  obtain ⟨_, o1, o2, o3, o4, o5, _⟩ := hl.2.2.2 j hj
  exact ⟨o2, o3, o4, o5⟩
set_option maxRecDepth 100000 in
theorem aeg_l {P : am_Q} {X : am_X} {p : Nat} (hX : am_K (d + 2) false nm_X12_allEighths P X) (hc : c < 20) (hW : W ≤ 8) (h111 : M.1 111 c = nI l.length) (s300 : l.length ≤ 300) (hr : ∀ j, j < l.length → rfO M (300 * c + j) (zg l j)) (ho : allO W l) (hp : p < 256) (hK : ∀ N, prF M N → P (.inl (some (aI (nI (toS (zg l) p l.length % 8))))) N) : ∀ (m k : Nat) (N : mm_M), k + m = l.length → prF M N → pqM N (pSk (zg l) k) → X 13 [some (aR 108), some (aI (nI c)), some (aI (nI p)), some (aI (nI (toR (zg l) p k))), some (aI (nI (300 * c + k)))] [] N := by
  have h8 := w256 hW
  intro m
  induction m with
  | zero =>
    intro k N hk hF hP
    obtain rfl : k = l.length := by omega
    have e111 : N.1 111 c = nI l.length := by rw [hF.1 111 (by decide) (by decide)]; exact h111
    have htl := toR_l (zg l) p l.length
    refine am_run hX 14 _ _ _ _ ?_
    conv => whnf
    refine ⟨vp_in_nI (by show c < 21; omega) (by decide), ?_⟩
    conv => whnf
    rw [nI_clamp (n := c) (by omega), e111, show (300 : Int32) = nI 300 from rfl, nI_mul, nI_add]
    refine ⟨fun _ => ?_, fun q => absurd (nI_le (Nat.le_refl _) (by omega)) q⟩
    conv => whnf
    rw [nI_m7, toR_e]
    exact ⟨trivial, hK N hF⟩
  | succ m ih =>
    intro k N hk hF hP
    have kl : k < l.length := by omega
    have e111 : N.1 111 c = nI l.length := by rw [hF.1 111 (by decide) (by decide)]; exact h111
    have gk := (ho k kl).1
    have hrk := rfO_p hF (hr k kl)
    obtain ⟨r2, r3, r4, r5⟩ := hrk
    have hwl : (zg l k).2.1 < 8 := by have := gk.1.2.1; omega
    have hpy : pyK (zg l) k < 256 := (hP _ hwl).2.1
    have e133 : N.1 133 (nI (zg l k).2.1).toNatClampNeg = nI (pyK (zg l) k) := by
      rw [nI_clamp (by omega)]
      exact (hP _ hwl).1
    have hIa : vp_in (nI (300 * c + k)) 6300 := vp_in_nI (by omega) (by decide)
    have htl := toR_l (zg l) p k
    have eg := eg_7 (zg l k).1
    have et : toR (zg l) p (k + 1) = toR (zg l) p k + (if pyK (zg l) k = p then cRk (zg l) k else 0) := rfl
    have hgo : ∀ v, v = toR (zg l) p (k + 1) → X 70 [some (aR 108), some (aI (nI c)), some (aI (nI p)), some (aI (nI v)), some (aI (nI (300 * c + k)))] [] N := by
      intro v hv
      subst hv
      refine am_run hX 3 _ _ _ _ ?_
      conv => whnf
      refine am_cq (ct_caryR (d := d) (by omega) hW gk ⟨r2, r3, r4, r5⟩ hP) fun r1 N1 hq => ?_
      obtain ⟨rfl, f1, g1⟩ := hq
      refine ⟨none, rfl, ?_⟩
      refine am_run hX 2 _ _ _ _ ?_
      conv => whnf
      rw [nI_1]
      exact ih (k + 1) N1 (by omega) (prF_t hF f1) g1
    refine am_run hX 10 _ _ _ _ ?_
    conv => whnf
    refine ⟨vp_in_nI (by show c < 21; omega) (by decide), ?_⟩
    conv => whnf
    rw [nI_clamp (n := c) (by omega), e111, show (300 : Int32) = nI 300 from rfl, nI_mul, nI_add]
    refine ⟨fun q => absurd q (nI_ge (by omega) (by omega)), fun _ => ?_⟩
    refine am_run hX 9 _ _ _ _ ?_
    conv => whnf
    refine ⟨hIa, ?_⟩
    conv => whnf
    rw [nI_clamp (n := 300 * c + k) (by omega), r3]
    refine ⟨vp_in_nI (by show (zg l k).2.1 < 8; exact hwl) (by decide), ?_⟩
    conv => whnf
    rw [e133, nI_eq (by omega) (by omega)]
    refine ⟨fun q => ?_, fun q => ?_⟩
    · exact hgo _ (by rw [et, if_neg q, Nat.add_zero])
    · refine am_run hX 14 _ _ _ _ ?_
      conv => whnf
      refine ⟨hIa, ?_⟩
      conv => whnf
      rw [nI_clamp (n := 300 * c + k) (by omega), r2]
      refine am_c1 (ct_egR (d := d + 1) gk.1.1) ?_
      conv => whnf
      refine ⟨hIa, ?_⟩
      conv => whnf
      rw [nI_clamp (n := 300 * c + k) (by omega), r3]
      refine am_c1 (ct_turnE (d := d + 1) hP hwl eg) ?_
      conv => whnf
      rw [nI_add]
      refine hgo _ ?_
      rw [et, if_pos (Decidable.byContradiction q)]
      rfl
set_option maxRecDepth 100000 in
theorem ct_allE {p : Nat} (hc : c < 20) (hW : W ≤ 8) (h111 : M.1 111 c = nI l.length) (s300 : l.length ≤ 300) (hr : ∀ j, j < l.length → rfO M (300 * c + j) (zg l j)) (ho : allO W l) (hp : p < 256) : am_M (d + 3) false nm_X12_allEighths [aR 108, aI (nI c), aI (nI p)] M (fun r N => r = .inl (some (aI (nI (toS (zg l) p l.length % 8)))) ∧ prF M N) := by
  refine ⟨rfl, rfl, rfl, fun X hX => am_run hX 4 _ _ _ _ ?_⟩
  conv => whnf
  refine am_cq (ct_stPR (d := d + 1)) fun r1 N1 hq => ?_
  obtain ⟨rfl, f1, g1⟩ := hq
  refine ⟨none, rfl, ?_⟩
  refine am_run hX 4 _ _ _ _ ?_
  conv => whnf
  rw [show (300 : Int32) = nI 300 from rfl, nI_mul]
  exact aeg_l (d := d) (M := M) hX hc hW h111 s300 hr ho hp (fun N a => ⟨rfl, a⟩) l.length 0 N1 (by omega) f1 g1
set_option maxRecDepth 100000 in
theorem cbm_l {P : am_Q} {X : am_X} (hX : am_K (d + 1) false nm_X12_canBeMerged P X) (hc : c < 20) (hW : W ≤ 8) (h111 : M.1 111 c = nI l.length) (s300 : l.length ≤ 300) (hr : ∀ j, j < l.length → rfO M (300 * c + j) (zg l j)) (ho : allO W l) (h1 : mgA l → P (.inl (some (aI 1))) M) (h0 : ¬ mgA l → P (.inl (some (aI 0))) M) : ∀ (m k : Nat) (l3 : Option am_V), k + m = l.length → (∀ j, j < k → mgB (zg l j) = true) → X 6 [some (aR 108), some (aI (nI c)), some (aI (nI (300 * c + k))), l3] [] M := by
  have h8 := w256 hW
  intro m
  induction m with
  | zero =>
    intro k l3 hk hM
    obtain rfl : k = l.length := by omega
    refine am_run hX 12 _ _ _ _ ?_
    conv => whnf
    refine ⟨vp_in_nI (by show c < 21; omega) (by decide), ?_⟩
    conv => whnf
    rw [nI_clamp (n := c) (by omega), h111, show (300 : Int32) = nI 300 from rfl, nI_mul, nI_add]
    refine ⟨fun _ => ?_, fun q => absurd (nI_le (Nat.le_refl _) (by omega)) q⟩
    conv => whnf
    exact ⟨rfl, h1 hM⟩
  | succ m ih =>
    intro k l3 hk hM
    have kl : k < l.length := by omega
    have gk := (ho k kl).1
    have pk := of_decide_eq_true (ho k kl).2
    have k9 := pk.1
    obtain ⟨r2, r3, r4, r5⟩ := hr k kl
    have hcl := gk.1.2.2.2.1
    have hpc := pc_f (zg l k).2.2.2.1 (by omega)
    have hIa : vp_in (nI (300 * c + k)) 6300 := vp_in_nI (by omega) (by decide)
    have hyes : mgB (zg l k) = true → ∀ l3, X 85 [some (aR 108), some (aI (nI c)), some (aI (nI (300 * c + k))), l3] [] M := by
      intro hm l3
      refine am_run hX 2 _ _ _ _ ?_
      conv => whnf
      rw [nI_1]
      refine ih (k + 1) _ (by omega) (fun j hj => ?_)
      by_cases q : j = k
      · subst q
        exact hm
      · exact hM j (by omega)
    have hno : mgB (zg l k) = false → ∀ l3, X 83 [some (aR 108), some (aI (nI c)), some (aI (nI (300 * c + k))), l3] [] M := by
      intro hm l3
      refine am_run hX 2 _ _ _ _ ?_
      conv => whnf
      refine ⟨rfl, h0 (fun q => ?_)⟩
      rw [q k kl] at hm
      cases hm
    have h49 : ∀ v : Int32, v = (if (zg l k).1 = 0 ∧ pc (zg l k).2.2.2.1 = 1 then 1 else 0) → X 49 [some (aR 108), some (aI (nI c)), some (aI (nI (300 * c + k))), l3] [aI v] M := by
      intro v hv
      by_cases q : (zg l k).1 = 0 ∧ pc (zg l k).2.2.2.1 = 1
      · rw [if_pos q] at hv
        subst hv
        refine am_run hX 3 _ _ _ _ ?_
        conv => whnf
        refine ⟨fun _ => hyes (decide_eq_true (Or.inl ⟨q.1, by omega⟩)) _, fun z => absurd (by decide) z⟩
      · rw [if_neg q] at hv
        subst hv
        refine am_run hX 3 _ _ _ _ ?_
        conv => whnf
        refine ⟨fun z => absurd rfl z, fun _ => ?_⟩
        refine am_run hX 5 _ _ _ _ ?_
        conv => whnf
        refine ⟨hIa, ?_⟩
        conv => whnf
        rw [nI_clamp (n := 300 * c + k) (by omega), r5, show (0 : Int32) = nI 0 from rfl, nI_eq (by omega) (by decide)]
        refine ⟨fun z => ?_, fun z => ?_⟩
        · refine hno (decide_eq_false (fun y => ?_)) _
          rcases y with ⟨y1, y2⟩ | ⟨y1, _⟩
          · have := hpc.2 z
            exact q ⟨y1, by omega⟩
          · exact z y1
        · have hz := Decidable.byContradiction z
          refine am_run hX 6 _ _ _ _ ?_
          conv => whnf
          refine ⟨hIa, ?_⟩
          conv => whnf
          rw [nI_clamp (n := 300 * c + k) (by omega), r2, show (1 : Int32) = nI 1 from rfl, nI_eq (by omega) (by decide)]
          refine ⟨fun y => ?_, fun y => ?_⟩
          · refine hno (decide_eq_false (fun t => ?_)) _
            rw [y] at t
            rcases t with ⟨t, _⟩ | ⟨_, t | t⟩
            · exact absurd t (by decide)
            · exact absurd t (by decide)
            · exact t rfl
          · refine am_run hX 6 _ _ _ _ ?_
            conv => whnf
            refine ⟨hIa, ?_⟩
            conv => whnf
            rw [nI_clamp (n := 300 * c + k) (by omega), r2, show (3 : Int32) = nI 3 from rfl, nI_eq (by omega) (by decide)]
            refine ⟨fun t => ?_, fun t => ?_⟩
            · refine hyes (decide_eq_true ?_) _
              by_cases u0 : (zg l k).1 = 0
              · left
                refine ⟨u0, ?_⟩
                rw [hz]
                decide
              · right
                refine ⟨hz, ?_⟩
                by_cases u8 : (zg l k).1 = 8
                · exact Or.inl u8
                · right
                  rcases (by omega : (zg l k).1 = 2 ∨ (zg l k).1 = 4 ∨ (zg l k).1 = 5 ∨ (zg l k).1 = 6 ∨ (zg l k).1 = 7) with u | u | u | u | u <;> rw [u] <;> decide
            · refine hno (decide_eq_false (fun u => ?_)) _
              rw [Decidable.byContradiction t] at u
              rcases u with ⟨u, _⟩ | ⟨_, u | u⟩
              · exact absurd u (by decide)
              · exact absurd u (by decide)
              · exact u rfl
    refine am_run hX 10 _ _ _ _ ?_
    conv => whnf
    refine ⟨vp_in_nI (by show c < 21; omega) (by decide), ?_⟩
    conv => whnf
    rw [nI_clamp (n := c) (by omega), h111, show (300 : Int32) = nI 300 from rfl, nI_mul, nI_add]
    refine ⟨fun q => absurd q (nI_ge (by omega) (by omega)), fun _ => ?_⟩
    refine am_run hX 5 _ _ _ _ ?_
    conv => whnf
    refine ⟨hIa, ?_⟩
    conv => whnf
    rw [nI_clamp (n := 300 * c + k) (by omega), r2, show (0 : Int32) = nI 0 from rfl, nI_eq (by omega) (by decide)]
    refine ⟨fun q => ?_, fun q => ?_⟩
    · refine am_run hX 1 _ _ _ _ ?_
      conv => whnf
      exact h49 0 (by rw [if_neg (fun z => q z.1)])
    · refine am_run hX 7 _ _ _ _ ?_
      conv => whnf
      refine ⟨hIa, ?_⟩
      conv => whnf
      rw [nI_clamp (n := 300 * c + k) (by omega), r5]
      refine am_c1 (ct_count d (zg l k).2.2.2.1 (by omega) M) ?_
      conv => whnf
      rw [show (1 : Int32) = nI 1 from rfl, nI_eq (by omega) (by decide)]
      refine ⟨fun z => ?_, fun z => ?_⟩
      · refine am_run hX 1 _ _ _ _ ?_
        conv => whnf
        exact h49 0 (by rw [if_neg (fun y => z y.2)])
      · refine am_run hX 2 _ _ _ _ ?_
        conv => whnf
        exact h49 1 (by rw [if_pos ⟨Decidable.byContradiction q, Decidable.byContradiction z⟩])
set_option maxRecDepth 100000 in
theorem ct_cbm (hc : c < 20) (hW : W ≤ 8) (h111 : M.1 111 c = nI l.length) (s300 : l.length ≤ 300) (hr : ∀ j, j < l.length → rfO M (300 * c + j) (zg l j)) (ho : allO W l) : am_M (d + 2) false nm_X12_canBeMerged [aR 108, aI (nI c)] M (fun r N => N = M ∧ ((mgA l ∧ r = .inl (some (aI 1))) ∨ (¬ mgA l ∧ r = .inl (some (aI 0))))) := by
  refine ⟨rfl, rfl, rfl, fun X hX => am_run hX 4 _ _ _ _ ?_⟩
  conv => whnf
  rw [show (300 : Int32) = nI 300 from rfl, nI_mul]
  exact cbm_l (d := d) hX hc hW h111 s300 hr ho (fun h => ⟨rfl, Or.inl ⟨h, rfl⟩⟩) (fun h => ⟨rfl, Or.inr ⟨h, rfl⟩⟩) l.length 0 none (by omega) (fun j hj => absurd hj (Nat.not_lt_zero _))
end MRS
