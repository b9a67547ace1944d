/-! PRODUCTS of SUMS: the class's multiply -/
/-- what is gathered so far, of those with these x's -/
def gthS (K : Nat → Nat → Nat) (T U : Nat → Nat → Int64) (s xs i j : Nat) (gr gi : Nat → Int64) : Prop := ∀ z, z < 256 → gr z = dbl K T s (256 * xs + z) i + sumJ (fun j => e2 K T (256 * xs + z) i j) j ∧ gi z = dbl K U s (256 * xs + z) i + sumJ (fun j => e2 K U (256 * xs + z) i j) j
section GAS
variable {K : Nat → Nat → Nat} {T U : Nat → Nat → Int64} {s xs i j : Nat} {gr gi : Nat → Int64}
theorem gthS_0 (h : ∀ z, z < 256 → gr z = 0 ∧ gi z = 0) : gthS K T U s xs 0 0 gr gi := fun z hz => by
  show gr z = 0 + 0 ∧ gi z = 0 + 0
  rw [(h z hz).1, (h z hz).2]
  exact ⟨rfl, rfl⟩
theorem ga_1 {f F : Nat → Int64} {z z0 : Nat} (hk : K i j = 256 * xs + z0) (h : f z = F z) : vp_updL f z0 (f z0 + T i j) z = F z + e2 K T (256 * xs + z) i j := by
  unfold vp_updL e2
  by_cases e : z = z0
  · rw [if_pos e, if_pos (by rw [hk, e]), ← e, h]
  · rw [if_neg e, if_neg (by omega), h, Int64.add_zero]
theorem gthS_s {z0 : Nat} (hk : K i j = 256 * xs + z0) (h : gthS K T U s xs i j gr gi) : gthS K T U s xs i (j + 1) (vp_updL gr z0 (gr z0 + T i j)) (vp_updL gi z0 (gi z0 + U i j)) := fun z hz => by
  obtain ⟨h1, h2⟩ := h z hz
  rw [ga_1 (F := fun z => dbl K T s (256 * xs + z) i + sumJ (fun j => e2 K T (256 * xs + z) i j) j) hk h1, ga_1 (F := fun z => dbl K U s (256 * xs + z) i + sumJ (fun j => e2 K U (256 * xs + z) i j) j) hk h2]
  exact ⟨Int64.add_assoc _ _ _, Int64.add_assoc _ _ _⟩
theorem gthS_n (h : gthS K T U s xs i s gr gi) : gthS K T U s xs (i + 1) 0 gr gi := fun z hz => by
  obtain ⟨h1, h2⟩ := h z hz
  rw [h1, h2]
  show _ = (dbl K T s (256 * xs + z) i + sumJ (fun j => e2 K T (256 * xs + z) i j) s) + 0 ∧ _ = (dbl K U s (256 * xs + z) i + sumJ (fun j => e2 K U (256 * xs + z) i j) s) + 0
  rw [Int64.add_zero, Int64.add_zero]
  exact ⟨rfl, rfl⟩
theorem gthS_v {v v' : Nat} (h : gthS K T U s xs i v gr gi) (hv : v ≤ v') (hz : ∀ j z, v ≤ j → j < v' → z < 256 → K i j ≠ 256 * xs + z) : gthS K T U s xs i v' gr gi := fun z h3 => by
  obtain ⟨h1, h2⟩ := h z h3
  obtain ⟨m, rfl⟩ : ∃ m, v' = v + m := ⟨v' - v, by omega⟩
  rw [sumJ_z (h := fun j => e2 K T (256 * xs + z) i j) m fun j a b => if_neg (hz j z a b h3), sumJ_z (h := fun j => e2 K U (256 * xs + z) i j) m fun j a b => if_neg (hz j z a b h3)]
  exact ⟨h1, h2⟩
end GAS
theorem x_hi {a b xs z : Nat} (h : a ^^^ b = 256 * xs + z) (hz : z < 256) : b / 256 = a / 256 ^^^ xs := by
  have e : a / 256 ^^^ b / 256 = xs := by
    rw [← xor_hi, h]
    omega
  rw [← e, ← Nat.xor_assoc, Nat.xor_self, Nat.zero_xor]
theorem x_lo {a b xs : Nat} (h : b / 256 = a / 256 ^^^ xs) : a ^^^ b = 256 * xs + (a ^^^ b) % 256 := by
  have e : (a ^^^ b) / 256 = xs := by
    rw [xor_hi, h, ← Nat.xor_assoc, Nat.xor_self, Nat.zero_xor]
  omega
section MLW
variable {d : Nat} {M : mm_M} {lr lp rr rp : Nat} {S T : SU} {F : Nat → Int32}
theorem cs_kF {n a x : Nat} {q : Nat → Int32} {f g gr gi : Nat → Int64} {A : SU} (ha : a < 3) (h : csS M a x A) : csS (fF (kF M F gr gi) n q f g) a x A := by
  unfold csS at *
  rw [fF_o (by decide), fF_o (by decide), fF_o (k := 85 + a) (by omega) (by omega), fF_o (k := 89 + a) (by omega) (by omega), fF_o (k := 93 + a) (by omega) (by omega), kF_o (by decide), kF_o (by decide), kF_o (k := 85 + a) (by omega), kF_o (k := 89 + a) (by omega), kF_o (k := 93 + a) (by omega)]
  · exact h
  all_goals decide
theorem ga_kF {n z : Nat} {q : Nat → Int32} {f g gr gi : Nat → Int64} {p r : Int64} : gaM (fF (kF M F gr gi) n q f g) z p r = fF (kF M F (vp_updL gr z (gr z + p)) (vp_updL gi z (gi z + r))) n q f g := by
  show mm_l (mm_l (fF (kF M F gr gi) n q f g) 101 (vp_updL gr z (gr z + p))) 102 (vp_updL gi z (gi z + r)) = _
  rw [kF_r, kF_i]
set_option maxRecDepth 100000 in
theorem ml_j {Pp : am_Q} {X : am_X} {n xs i v1 o : Nat} {q : Nat → Int32} {f g : Nat → Int64} (hX : am_K (d + 3) false nm_X9_multiply Pp X) (hc : prR lr lp rr rp) (hM : prM M lr lp rr rp) (h1 : csS M lp lr S) (h2 : csS M rp rr T) (oS : orS S) (oT : orS T) (hi : i < S.1) (hx : xs < 256) (ho : o = S.2.2.1 i / 256 ^^^ xs) (ho2 : o < 256) (hv1 : v1 ≤ T.1) (hF1 : F (o + 1) = nI v1) (hup : ∀ j, j < v1 → T.2.2.1 j / 256 < o + 1) (hK : ∀ y gr gi l6 l7, y < 2 → (y = 0 → ∀ z, z < 256 → gr z = 0 ∧ gi z = 0) → gthS (fun i j => S.2.2.1 i ^^^ T.2.2.1 j) (tP S T) (tQ S T) T.1 xs i v1 gr gi → X 104 [some (aR 83), some (aI (nI lr)), some (aI (nI rr)), some (aI (nI xs)), some (aI (nI y)), some (aI (nI i)), l6, l7] [] (fF (kF M F gr gi) n q f g)) : ∀ w j y gr gi, j + w = v1 → (∀ j', j ≤ j' → j' < v1 → o ≤ T.2.2.1 j' / 256) → y < 2 → (y = 0 → ∀ z, z < 256 → gr z = 0 ∧ gi z = 0) → gthS (fun i j => S.2.2.1 i ^^^ T.2.2.1 j) (tP S T) (tQ S T) T.1 xs i j gr gi → X 71 [some (aR 83), some (aI (nI lr)), some (aI (nI rr)), some (aI (nI xs)), some (aI (nI y)), some (aI (nI i)), some (aI (nI o)), some (aI (nI j))] [] (fF (kF M F gr gi) n q f g) := by
  have t1 := oS.1
  have t2 := oT.1
  have b : lr < 3 ∧ lp < 3 ∧ rr < 3 ∧ rp < 3 := by
    unfold prR at hc
    omega
  have hO : vp_in (nI (o + 1)) 257 := vp_in_nI (by omega) (by decide)
  intro w
  induction w with
  | zero =>
    intro j y gr gi hj hlo hy hy0 hS
    have hj : j = v1 := by omega
    subst hj
    refine am_run hX 8 _ _ _ _ ?_
    conv => whnf
    rw [nI_1]
    refine ⟨hO, ?_⟩
    conv => whnf
    rw [nI_clamp (n := o + 1) (by omega), show (fF (kF M F gr gi) n q f g).1 103 (o + 1) = nI j from hF1]
    refine ⟨fun _ => ?_, fun c => absurd (nI_le (by omega) (by omega)) c⟩
    exact hK y gr gi _ _ hy hy0 hS
  | succ w ih =>
    intro j y gr gi hj hlo hy hy0 hS
    refine am_run hX 8 _ _ _ _ ?_
    conv => whnf
    rw [nI_1]
    refine ⟨hO, ?_⟩
    conv => whnf
    rw [nI_clamp (n := o + 1) (by omega), show (fF (kF M F gr gi) n q f g).1 103 (o + 1) = nI v1 from hF1]
    refine ⟨fun c => absurd c (nI_ge (by omega) (by omega)), fun _ => ?_⟩
    refine am_run hX 6 _ _ _ _ ?_
    conv => whnf
    have hhi : T.2.2.1 j / 256 = S.2.2.1 i / 256 ^^^ xs := by
      have a := hup j (by omega)
      have b := hlo j (Nat.le_refl _) (by omega)
      rw [← ho]
      omega
    have hk := x_lo hhi
    refine am_c0 (ct_gp (d := d) (M := fF (kF M F gr gi) n q f g) (i := i) (j := j) hc hM (cs_kF b.2.1 h1) (cs_kF b.2.2.2 h2) oS oT hi (by omega)) ?_
    rw [ga_kF]
    conv => whnf
    refine am_run hX 4 _ _ _ _ ?_
    conv => whnf
    rw [nI_1]
    refine ih (j + 1) 1 _ _ (by omega) (fun j' a b => hlo j' (by omega) b) (by decide) (fun z => absurd z (by decide)) (gthS_s (K := fun i j => S.2.2.1 i ^^^ T.2.2.1 j) (T := tP S T) (U := tQ S T) hk hS)
set_option maxRecDepth 100000 in
theorem ml_i {Pp : am_Q} {X : am_X} {n xs : Nat} {q : Nat → Int32} {f g : Nat → Int64} (hX : am_K (d + 3) false nm_X9_multiply Pp X) (hc : prR lr lp rr rp) (hM : prM M lr lp rr rp) (h1 : csS M lp lr S) (h2 : csS M rp rr T) (oS : orS S) (oT : orS T) (hx : xs < 256) (hF : foP F T.2.2.1 T.1 257) (hK : ∀ y gr gi l6 l7, y < 2 → (y = 0 → ∀ z, z < 256 → gr z = 0 ∧ gi z = 0) → gthS (fun i j => S.2.2.1 i ^^^ T.2.2.1 j) (tP S T) (tQ S T) T.1 xs S.1 0 gr gi → X 110 [some (aR 83), some (aI (nI lr)), some (aI (nI rr)), some (aI (nI xs)), some (aI (nI y)), some (aI (nI S.1)), l6, l7] [] (fF (kF M F gr gi) n q f g)) : ∀ w i y gr gi l6 l7, i + w = S.1 → y < 2 → (y = 0 → ∀ z, z < 256 → gr z = 0 ∧ gi z = 0) → gthS (fun i j => S.2.2.1 i ^^^ T.2.2.1 j) (tP S T) (tQ S T) T.1 xs i 0 gr gi → X 35 [some (aR 83), some (aI (nI lr)), some (aI (nI rr)), some (aI (nI xs)), some (aI (nI y)), some (aI (nI i)), l6, l7] [] (fF (kF M F gr gi) n q f g) := by
  have t1 := oS.1
  have t2 := oT.1
  have b : lr < 3 ∧ lp < 3 ∧ rr < 3 ∧ rp < 3 := by
    unfold prR at hc
    omega
  have hL : vp_in (nI lr) 3 := vp_in_nI (by omega) (by decide)
  have e96 : ∀ gr gi, (fF (kF M F gr gi) n q f g).1 96 (nI lr).toNatClampNeg = nI S.1 := fun _ _ => by rw [nI_clamp (by omega)]; exact h1.1
  have eL1 : ∀ gr gi, (fF (kF M F gr gi) n q f g).1 84 (nI lr).toNatClampNeg = nI lp := fun _ _ => by rw [nI_clamp (by omega)]; exact hM.1.1
  intro w
  induction w with
  | zero =>
    intro i y gr gi l6 l7 hi hy hy0 hS
    have hi : i = S.1 := by omega
    subst hi
    refine am_run hX 6 _ _ _ _ ?_
    conv => whnf
    refine ⟨hL, ?_⟩
    conv => whnf
    rw [e96]
    refine ⟨fun _ => ?_, fun c => absurd (nI_le (by omega) (by omega)) c⟩
    exact hK y gr gi _ _ hy hy0 hS
  | succ w ih =>
    intro i y gr gi l6 l7 hi hy hy0 hS
    have hiS : i < S.1 := by omega
    have li := oS.2.2.2 i hiS
    have ho2 : S.2.2.1 i / 256 ^^^ xs < 256 := Nat.xor_lt_two_pow (n := 8) (by omega) hx
    have hO : vp_in (nI (S.2.2.1 i / 256 ^^^ xs)) 257 := vp_in_nI (by omega) (by decide)
    have hI : vp_in (nI i) 150 := vp_in_nI (by omega) (by decide)
    obtain ⟨v0, p1, p2, p3, p4⟩ := hF (S.2.2.1 i / 256 ^^^ xs) (by omega)
    obtain ⟨v1, q1, q2, q3, q4⟩ := hF ((S.2.2.1 i / 256 ^^^ xs) + 1) (by omega)
    have hv : v0 ≤ v1 := Nat.le_of_not_lt fun z => by
      have a := p3 v1 z
      have b := q4 v1 (Nat.le_refl _) (by omega)
      omega
    have vL1 : (fF (kF M F gr gi) n q f g).1 (84 + 1 + (nI lp).toNatClampNeg) (nI i).toNatClampNeg = nI (S.2.2.1 i) := by
      rw [nI_clamp (n := lp) (by omega), nI_clamp (n := i) (by omega)]
      exact ((cs_kF b.2.1 h1).2.2 i hiS).1
    have next : X 71 [some (aR 83), some (aI (nI lr)), some (aI (nI rr)), some (aI (nI xs)), some (aI (nI y)), some (aI (nI i)), some (aI (nI (S.2.2.1 i / 256 ^^^ xs))), some (aI (nI v0))] [] (fF (kF M F gr gi) n q f g) := by
      refine ml_j (d := d) (M := M) (v1 := v1) hX hc hM h1 h2 oS oT hiS hx rfl ho2 q1 q2 q3 (fun y gr gi l6 l7 a1 a2 a3 => ?_) (v1 - v0) v0 y gr gi (by omega) (fun j' a b => p4 j' a (by omega)) hy hy0 (gthS_v hS (Nat.zero_le _) fun j z a b c hk => ?_)
      · refine am_run hX 2 _ _ _ _ ?_
        conv => whnf
        rw [nI_1]
        refine ih (i + 1) y gr gi _ _ (by omega) a1 a2 (gthS_n (gthS_v a3 q1 fun j z a b c hk => ?_))
        have := x_hi hk c
        have := q4 j a b
        omega
      · have := x_hi hk c
        have := p3 j b
        omega
    refine am_run hX 6 _ _ _ _ ?_
    conv => whnf
    refine ⟨hL, ?_⟩
    conv => whnf
    rw [e96]
    refine ⟨fun c => absurd c (nI_ge (by omega) (by omega)), fun _ => ?_⟩
    have eL1 := eL1 gr gi
    have f0 : (fF (kF M F gr gi) n q f g).1 103 (S.2.2.1 i / 256 ^^^ xs) = nI v0 := p2
    clear ih hK hF hS hM h1 h2
    rcases hc with ⟨rfl, rfl, rfl, rfl⟩ | ⟨rfl, rfl, rfl, rfl⟩ | ⟨rfl, rfl, rfl, rfl⟩ | ⟨rfl, rfl, rfl, rfl⟩ | ⟨rfl, rfl, rfl, rfl⟩ | ⟨rfl, rfl, rfl, rfl⟩
    all_goals (
      refine am_run hX 16 _ _ _ _ ?_
      conv => whnf
      rw [eL1]
      refine ⟨⟨hL, by decide⟩, ?_⟩
      conv => whnf
      refine ⟨hI, ?_⟩
      conv => whnf
      rw [vL1, nI_s8 (by omega), nI_xor]
      refine ⟨hO, ?_⟩
      conv => whnf
      rw [nI_clamp (n := S.2.2.1 i / 256 ^^^ xs) (by omega), f0]
      exact next)
set_option maxRecDepth 100000 in
theorem ml_x {Pp : am_Q} {X : am_X} {P Q : Nat → Int64} (hX : am_K (d + 3) false nm_X9_multiply Pp X) (hc : prR lr lp rr rp) (hM : prM M lr lp rr rp) (h1 : csS M lp lr S) (h2 : csS M rp rr T) (oS : orS S) (oT : orS T) (hF : foP F T.2.2.1 T.1 257) (hPe : P = fun x => dbl (fun i j => S.2.2.1 i ^^^ T.2.2.1 j) (tP S T) T.1 x S.1) (hQe : Q = fun x => dbl (fun i j => S.2.2.1 i ^^^ T.2.2.1 j) (tQ S T) T.1 x S.1) (hP : ∀ β n κ q f g gr gi l3 l4 l5 l6 l7, β ≤ 65536 → (n ≤ 150 → β = 65536) → n ≤ 65536 → fnd P Q β n κ q f g → (∀ z, z < 256 → gr z = 0 ∧ gi z = 0) → X 126 [some (aR 83), some (aI (nI lr)), some (aI (nI rr)), l3, l4, l5, l6, l7] [] (fF (kF M F gr gi) n q f g)) : ∀ w xs n κ q f g gr gi l4 l5 l6 l7, xs + w = 256 → n ≤ 256 * xs → fnd P Q (256 * xs) n κ q f g → (∀ z, z < 256 → gr z = 0 ∧ gi z = 0) → X 12 [some (aR 83), some (aI (nI lr)), some (aI (nI rr)), some (aI (nI xs)), l4, l5, l6, l7] [] (fF (kF M F gr gi) n q f g) := by
  intro w
  induction w with
  | zero =>
    intro xs n κ q f g gr gi l4 l5 l6 l7 hx hn hf hz
    have hx : xs = 256 := by omega
    subst hx
    refine am_run hX 3 _ _ _ _ ?_
    conv => whnf
    refine ⟨fun _ => ?_, fun c => absurd (by decide) c⟩
    exact hP 65536 n κ q f g gr gi _ _ _ _ _ (Nat.le_refl _) (fun _ => rfl) hn hf hz
  | succ w ih =>
    intro xs n κ q f g gr gi l4 l5 l6 l7 hx hn hf hz
    refine am_run hX 3 _ _ _ _ ?_
    conv => whnf
    refine ⟨fun c => absurd c (nI_ge (a := xs) (b := 256) (by omega) (by decide)), fun _ => ?_⟩
    refine am_run hX 4 _ _ _ _ ?_
    conv => whnf
    rw [show (fF (kF M F gr gi) n q f g).1 83 11 = nI n from rfl]
    by_cases h150 : n ≤ 150
    · refine ⟨fun c => absurd c (nI_nlt (a := 150) (b := n) h150 (by decide)), fun _ => ?_⟩
      refine am_run hX 4 _ _ _ _ ?_
      conv => whnf
      refine ml_i (d := d) (M := M) hX hc hM h1 h2 oS oT (by omega) hF (fun y gr gi l6 l7 a1 a2 a3 => ?_) S.1 0 0 gr gi _ _ (by omega) (by decide) (fun _ => hz) (gthS_0 hz)
      have v : ∀ z, z < 256 → gr z = P (256 * xs + z) ∧ gi z = Q (256 * xs + z) := fun z hz => by
        obtain ⟨b1, b2⟩ := a3 z hz
        rw [b1, b2, hPe, hQe]
        exact ⟨Int64.add_zero _, Int64.add_zero _⟩
      refine am_run hX 2 _ _ _ _ ?_
      conv => whnf
      obtain rfl | rfl : y = 0 ∨ y = 1 := by omega
      · refine ⟨fun _ => ?_, fun c => absurd rfl c⟩
        refine am_run hX 2 _ _ _ _ ?_
        conv => whnf
        rw [nI_1]
        refine ih (xs + 1) n κ q f g gr gi _ _ _ _ (by omega) (by omega) (fnd_up hf (by omega) fun x b1 b2 => ?_) (a2 rfl)
        obtain ⟨z, rfl⟩ : ∃ z, x = 256 * xs + z := ⟨x - 256 * xs, by omega⟩
        have hz : z < 256 := by omega
        rw [← (v z hz).1, ← (v z hz).2, (a2 rfl z hz).1, (a2 rfl z hz).2]
        rfl
      · refine ⟨fun c => absurd c (by decide), fun _ => ?_⟩
        refine am_run hX 3 _ _ _ _ ?_
        conv => whnf
        refine am_cq (ct_take (d := d + 1) (M := M) (F := F) (by omega) hn hf v) ?_
        rintro r M' ⟨rfl, n2, κ2, q2, f2, g2, gr2, gi2, e1, e2, e3, rfl⟩
        refine ⟨none, rfl, ?_⟩
        conv => whnf
        refine am_run hX 2 _ _ _ _ ?_
        conv => whnf
        rw [nI_1]
        exact ih (xs + 1) n2 κ2 q2 f2 g2 gr2 gi2 _ _ _ _ (by omega) (by omega) (by rw [show 256 * (xs + 1) = 256 * xs + 256 by omega]; exact e2) e3
    · refine ⟨fun _ => ?_, fun c => absurd (nI_lt (a := 150) (b := n) (by omega) (by omega)) c⟩
      exact hP (256 * xs) n κ q f g gr gi _ _ _ _ _ (by omega) (fun z => absurd z h150) (by omega) hf hz
theorem kF_self {N : mm_M} : mm_i N 103 F = kF N F (N.2 101) (N.2 102) := by
  refine Prod.ext rfl (funext fun k => ?_)
  by_cases h1 : k = 101
  · subst h1; rfl
  · by_cases h2 : k = 102
    · subst h2; rfl
    · simp [kF, mm_i, mm_l, h1, h2]
theorem csF_kF {gr gi : Nat → Int64} : csF M (kF M F gr gi) := csF_t (csF_t (csF_i (k := 103) (by decide)) (csF_l (k := 101) (by decide))) (csF_l (k := 102) (by decide))
/-- what multiply leaves -/
def mlE (M : mm_M) (a b : Nat) (A : SU) (P Q : Nat → Int64) (m : Nat) : am_Q := fun r M' => ∃ c κ, enX P Q c κ ∧ csF M M' ∧ (M'.1 84 = M.1 84 ∧ M'.1 88 = M.1 88 ∧ M'.1 92 = M.1 92) ∧ (∀ z, z < 256 → M'.2 101 z = 0 ∧ M'.2 102 z = 0) ∧ (∀ B, csS M b 1 B → csS M' b 1 B) ∧ ((okN P Q m c κ = true ∧ r = .inl (some (aI 1)) ∧ csS M' a 0 (newS P Q m c κ)) ∨ (okN P Q m c κ = false ∧ r = .inl (some (aI 0)) ∧ csS M' a 0 A))
set_option maxRecDepth 100000 in
theorem ct_mulC {a b : Nat} {A : SU} (hr : sm_r M a b) (hc : prR lr lp rr rp) (hM : prM M lr lp rr rp) (h1 : csS M lp lr S) (h2 : csS M rp rr T) (hA : csS M a 0 A) (oS : orS S) (oT : orS T) (hz : ∀ z, z < 256 → M.2 101 z = 0 ∧ M.2 102 z = 0) : am_M (d + 4) false nm_X9_multiply [aR 83, aI (nI lr), aI (nI rr)] M (mlE M a b A (fun x => dbl (fun i j => S.2.2.1 i ^^^ T.2.2.1 j) (tP S T) T.1 x S.1) (fun x => dbl (fun i j => S.2.2.1 i ^^^ T.2.2.1 j) (tQ S T) T.1 x S.1) (S.2.1 + T.2.1)) := by
  have b3 : lr < 3 ∧ lp < 3 ∧ rr < 3 ∧ rp < 3 := by
    unfold prR at hc
    omega
  have hab : a < 3 ∧ b < 3 := by
    have := hr.1
    omega
  have hL : vp_in (nI lr) 3 := vp_in_nI (by omega) (by decide)
  have hR : vp_in (nI rr) 3 := vp_in_nI (by omega) (by decide)
  have u1 := oS.2.1
  have u2 := oT.2.1
  refine ⟨rfl, rfl, rfl, fun X hX => am_run hX 3 _ _ _ _ ?_⟩
  conv => whnf
  refine am_cq (ct_ff (d := d + 2) (M := M) (rr := rr) (rp := rp) (by unfold prR at hc; omega) hM.2.1 h2 oT) ?_
  rintro r M' ⟨rfl, F, hF, rfl⟩
  refine ⟨none, rfl, ?_⟩
  conv => whnf
  refine am_run hX 5 _ _ _ _ ?_
  conv => whnf
  rw [show (0 : Int32) = nI 0 from rfl, kF_self, fF_self]
  refine ml_x (d := d) (M := M) (F := F) hX hc hM h1 h2 oS oT hF rfl rfl (fun β n κ q f g gr gi l3 l4 l5 l6 l7 k1 k2 k3 k4 k5 => ?_) 256 0 0 (fun _ => 0) _ _ _ _ _ _ _ _ _ (by omega) (by omega) fnd_0 hz
  have e97L : (fF (kF M F gr gi) n q f g).1 97 (nI lr).toNatClampNeg = nI S.2.1 := by rw [nI_clamp (by omega)]; exact h1.2.1
  have e97R : (fF (kF M F gr gi) n q f g).1 97 (nI rr).toNatClampNeg = nI T.2.1 := by rw [nI_clamp (by omega)]; exact h2.2.1
  refine am_run hX 20 _ _ _ _ ?_
  conv => whnf
  refine ⟨hL, ?_⟩
  conv => whnf
  refine ⟨hR, ?_⟩
  conv => whnf
  rw [e97L, e97R, nI_add]
  refine am_cq (ct_stlR (d := d) (M := kF M F gr gi) (a := a) (b := b) (over := S.2.1 + T.2.1) hr (by omega) (by omega) k4) ?_
  intro r M' hE
  obtain ⟨e1, e2, e3, e4⟩ := hE
  have kc : ∀ {x y : Nat} {B : SU}, x < 3 → csS M x y B → csS (kF M F gr gi) x y B := fun {x y B} hx h => by
    unfold csS at *
    rw [kF_o (by decide), kF_o (by decide), kF_o (k := 85 + x) (by omega), kF_o (k := 89 + x) (by omega), kF_o (k := 93 + x) (by omega)]
    exact h
  have g1 : M'.1 84 = M.1 84 ∧ M'.1 88 = M.1 88 ∧ M'.1 92 = M.1 92 := ⟨e2.1, e2.2.1, e2.2.2.1⟩
  have g2 : ∀ z, z < 256 → M'.2 101 z = 0 ∧ M'.2 102 z = 0 := fun z h => by
    rw [e2.2.2.2.1, e2.2.2.2.2]
    exact k5 z h
  rcases e4 with ⟨y1, rfl, y3⟩ | ⟨y1, rfl, y3⟩
  · refine ⟨_, rfl, ?_⟩
    conv => whnf
    exact ⟨rfl, n, κ, fnd_e k4 k1 k2, csF_t csF_kF e1, g1, g2, fun B hB => e3 B (kc hab.2 hB), Or.inl ⟨y1, rfl, y3⟩⟩
  · refine ⟨_, rfl, ?_⟩
    conv => whnf
    exact ⟨rfl, n, κ, fnd_e k4 k1 k2, csF_t csF_kF e1, g1, g2, fun B hB => e3 B (kc hab.2 hB), Or.inr ⟨y1, rfl, y3 A (kc hab.1 hA)⟩⟩
end MLW
