/-! THE CLASS'S merge -/
def shA (e : Nat) : Int64 := (1 : Int64) <<< ((nI e).toInt64 &&& 63)
theorem shl_mul (v e : Int64) : v <<< e = (1 : Int64) <<< e * v := by
  refine Int64.toBitVec_inj.mp ?_
  show v.toBitVec <<< (e.toBitVec.smod 64) = 1#64 <<< (e.toBitVec.smod 64) * v.toBitVec
  rw [BitVec.mul_comm, BitVec.shiftLeft_eq', BitVec.shiftLeft_eq', BitVec.shiftLeft_eq_mul_twoPow, BitVec.twoPow_eq]
theorem sh_v (v : Int64) (e : Nat) : v <<< ((nI e).toInt64 &&& 63) = shA e * v := shl_mul v _
theorem sh_s (s v : Int64) (e : Nat) : s * (v <<< ((nI e).toInt64 &&& 63)) = s <<< ((nI e).toInt64 &&& 63) * v := by
  rw [sh_v, sh_v, ← Int64.mul_assoc, Int64.mul_comm s]
/-- the number at a key -/
def lkp (κ : Nat → Nat) (R : Nat → Int32) : Nat → Nat → Int64
  | 0, _ => 0
  | i + 1, x => if κ i = x then (R i).toInt64 else lkp κ R i x
section LKP
variable {κ : Nat → Nat} {R : Nat → Int32}
theorem lkp_no {x : Nat} : ∀ s, (∀ j, j < s → κ j ≠ x) → lkp κ R s x = 0
  | 0, _ => rfl
  | s + 1, h => by
    simp only [lkp]
    rw [if_neg (h s (by omega))]
    exact lkp_no s fun j hj => h j (by omega)
theorem lkp_in {j : Nat} : ∀ s, (∀ a b, a < s → b < s → κ a = κ b → a = b) → j < s → lkp κ R s (κ j) = (R j).toInt64
  | 0, _, hj => absurd hj (Nat.not_lt_zero _)
  | s + 1, h, hj => by
    simp only [lkp]
    by_cases e : s = j
    · rw [e, if_pos rfl]
    · rw [if_neg fun z => e (h s j (by omega) hj z)]
      exact lkp_in s (fun a b ha hb => h a b (by omega) (by omega)) (by omega)
theorem brF_l {c : Int64} {f : Nat → Int64} {x : Nat} : ∀ s, (∀ a b, a < s → b < s → κ a = κ b → a = b) → brF κ c R f s x = f x + c * lkp κ R s x
  | 0, _ => by
    show f x = f x + c * 0
    rw [Int64.mul_zero, Int64.add_zero]
  | s + 1, h => by
    have ih : ∀ x, brF κ c R f s x = f x + c * lkp κ R s x := fun x => brF_l s fun a b ha hb => h a b (by omega) (by omega)
    show vp_updL (brF κ c R f s) (κ s) (brF κ c R f s (κ s) + c * (R s).toInt64) x = _
    simp only [lkp]
    unfold vp_updL
    by_cases e : x = κ s
    · rw [if_pos e, if_pos e.symm, ih, e, lkp_no s fun j hj z => absurd (h j s (by omega) (by omega) z) (by omega), Int64.mul_zero, Int64.add_zero]
    · rw [if_neg e, if_neg fun z => e z.symm]
      exact ih x
end LKP
/-- two SUMS, each times a number -/
def adP (cA cX : Int64) (A X : Nat × (Nat → Nat) × (Nat → Int32)) (x : Nat) : Int64 := cA * lkp A.2.1 A.2.2 A.1 x + cX * lkp X.2.1 X.2.2 X.1 x
section MRG
variable {d : Nat} {N : mm_M} {l6 l7 l8 l9 l10 l11 : Option am_V}
set_option maxRecDepth 100000 in
theorem mg_one {Pp : am_Q} {X : am_X} {a s i : Nat} {κA : Nat → Nat} {xr v2 sg v5 : Int32} (hX : am_K (d + 1) false nm_X9_merge Pp X) (ha : a < 2) (e0 : N.1 84 0 = nI a) (h96 : N.1 96 0 = nI s) (hs : s ≤ 150) (hκ : ∀ j, j < s → N.1 (85 + a) j = nI (κA j)) (hi : i ≤ s) (hK : X 60 [some (aR 83), some (aI xr), some (aI v2), some (aI sg), some (aI (nI i)), some (aI v5), some (aI (nI (if i < s then κA i else 65536))), l7, l8, l9, l10, l11] [] N) : X 33 [some (aR 83), some (aI xr), some (aI v2), some (aI sg), some (aI (nI i)), some (aI v5), l6, l7, l8, l9, l10, l11] [] N := by
  have h0 : vp_in 0 3 := vp_in_nI (n := 0) (N := 3) (by decide) (by decide)
  by_cases c : i < s
  · have k1 := hκ i c
    rw [if_pos c] at hK
    refine am_run hX 6 _ _ _ _ ?_
    conv => whnf
    refine ⟨h0, ?_⟩
    conv => whnf
    rw [show N.1 96 (Int32.toNatClampNeg 0) = nI s from h96]
    refine ⟨fun z => absurd z (nI_ge (by omega) (by omega)), fun _ => ?_⟩
    obtain rfl | rfl : a = 0 ∨ a = 1 := by omega
    all_goals (
      refine am_run hX 8 _ _ _ _ ?_
      conv => whnf
      rw [show N.1 84 (Int32.toNatClampNeg 0) = nI _ from e0]
      refine ⟨⟨h0, by decide⟩, ?_⟩
      conv => whnf
      refine ⟨vp_in_nI (by show i < 150; omega) (by decide), ?_⟩
      conv => whnf
      rw [nI_clamp (n := i) (by omega)]
      first
      | rw [show N.1 (84 + 1 + (nI 0).toNatClampNeg) i = nI (κA i) from k1]
        exact hK
      | rw [show N.1 (84 + 1 + (nI 1).toNatClampNeg) i = nI (κA i) from k1]
        exact hK)
  · rw [if_neg c] at hK
    refine am_run hX 6 _ _ _ _ ?_
    conv => whnf
    refine ⟨h0, ?_⟩
    conv => whnf
    rw [show N.1 96 (Int32.toNatClampNeg 0) = nI s from h96]
    refine ⟨fun _ => ?_, fun z => absurd (nI_le (by omega) (by omega)) z⟩
    refine am_run hX 2 _ _ _ _ ?_
    conv => whnf
    exact hK
set_option maxRecDepth 100000 in
theorem mg_two {Pp : am_Q} {X : am_X} {xr xp s j : Nat} {κX : Nat → Nat} {v2 sg v4 v6 : Int32} (hX : am_K (d + 1) false nm_X9_merge Pp X) (hx : xr = 1 ∧ xp = 0 ∨ xr = 1 ∧ xp = 1 ∨ xr = 2 ∧ xp = 2) (e0 : N.1 84 xr = nI xp) (h96 : N.1 96 xr = nI s) (hs : s ≤ 150) (hκ : ∀ j, j < s → N.1 (85 + xp) j = nI (κX j)) (hj : j ≤ s) (hK : X 87 [some (aR 83), some (aI (nI xr)), some (aI v2), some (aI sg), some (aI v4), some (aI (nI j)), some (aI v6), some (aI (nI (if j < s then κX j else 65536))), l8, l9, l10, l11] [] N) : X 60 [some (aR 83), some (aI (nI xr)), some (aI v2), some (aI sg), some (aI v4), some (aI (nI j)), some (aI v6), l7, l8, l9, l10, l11] [] N := by
  have hin : vp_in (nI xr) 3 := vp_in_nI (by omega) (by decide)
  by_cases c : j < s
  · have k1 := hκ j c
    rw [if_pos c] at hK
    refine am_run hX 6 _ _ _ _ ?_
    conv => whnf
    refine ⟨hin, ?_⟩
    conv => whnf
    rw [nI_clamp (n := xr) (by omega), h96]
    refine ⟨fun z => absurd z (nI_ge (by omega) (by omega)), fun _ => ?_⟩
    rcases hx with ⟨rfl, rfl⟩ | ⟨rfl, rfl⟩ | ⟨rfl, rfl⟩
    all_goals (
      refine am_run hX 8 _ _ _ _ ?_
      conv => whnf
      first
      | rw [show N.1 84 (nI 1).toNatClampNeg = nI _ from e0]
      | rw [show N.1 84 (nI 2).toNatClampNeg = nI _ from e0]
      refine ⟨⟨hin, by decide⟩, ?_⟩
      conv => whnf
      refine ⟨vp_in_nI (by show j < 150; omega) (by decide), ?_⟩
      conv => whnf
      rw [nI_clamp (n := j) (by omega)]
      first
      | rw [show N.1 (84 + 1 + (nI 0).toNatClampNeg) j = nI (κX j) from k1]
        exact hK
      | rw [show N.1 (84 + 1 + (nI 1).toNatClampNeg) j = nI (κX j) from k1]
        exact hK
      | rw [show N.1 (84 + 1 + (nI 2).toNatClampNeg) j = nI (κX j) from k1]
        exact hK)
  · rw [if_neg c] at hK
    refine am_run hX 6 _ _ _ _ ?_
    conv => whnf
    refine ⟨hin, ?_⟩
    conv => whnf
    rw [nI_clamp (n := xr) (by omega), h96]
    refine ⟨fun _ => ?_, fun z => absurd (nI_le (by omega) (by omega)) z⟩
    refine am_run hX 2 _ _ _ _ ?_
    conv => whnf
    exact hK
set_option maxRecDepth 100000 in
theorem mg_A {Pp : am_Q} {X : am_X} {a i h m : Nat} {xr sg v5 v6 v7 : Int32} (hX : am_K (d + 1) false nm_X9_merge Pp X) (ha : a < 2) (e1 : N.1 88 0 = nI a) (e2 : N.1 92 0 = nI a) (h97 : N.1 97 0 = nI h) (hm : h ≤ m) (hi : i < 150) (hK : X 145 [some (aR 83), some (aI xr), some (aI (nI m)), some (aI sg), some (aI (nI (i + 1))), some (aI v5), some (aI v6), some (aI v7), some (aJ (shA (m - h) * (N.1 (89 + a) i).toInt64)), none, some (aJ (shA (m - h) * (N.1 (93 + a) i).toInt64)), none] [] N) : X 100 [some (aR 83), some (aI xr), some (aI (nI m)), some (aI sg), some (aI (nI i)), some (aI v5), some (aI v6), some (aI v7), some (aJ 0), none, some (aJ 0), none] [] N := by
  have h0 : vp_in 0 3 := vp_in_nI (n := 0) (N := 3) (by decide) (by decide)
  obtain rfl | rfl : a = 0 ∨ a = 1 := by omega
  all_goals (
    refine am_run hX 31 _ _ _ _ ?_
    conv => whnf
    rw [show N.1 88 (Int32.toNatClampNeg 0) = nI _ from e1]
    refine ⟨⟨h0, by decide⟩, ?_⟩
    conv => whnf
    refine ⟨vp_in_nI (by show i < 150; omega) (by decide), ?_⟩
    conv => whnf
    refine ⟨h0, ?_⟩
    conv => whnf
    rw [show N.1 92 (Int32.toNatClampNeg 0) = nI _ from e2]
    refine ⟨⟨h0, by decide⟩, ?_⟩
    conv => whnf
    refine ⟨vp_in_nI (by show i < 150; omega) (by decide), ?_⟩
    conv => whnf
    refine ⟨h0, ?_⟩
    conv => whnf
    rw [nI_clamp (n := i) (by omega), show N.1 97 (Int32.toNatClampNeg 0) = nI h from h97, nI_sub hm, nI_1, sh_v, sh_v]
    exact hK)
set_option maxRecDepth 100000 in
theorem mg_X {Pp : am_Q} {X : am_X} {xr xp j h m : Nat} {sg v4 v6 v7 : Int32} {p r : Int64} (hX : am_K (d + 1) false nm_X9_merge Pp X) (hx : xr = 1 ∧ xp = 0 ∨ xr = 1 ∧ xp = 1 ∨ xr = 2 ∧ xp = 2) (e1 : N.1 88 xr = nI xp) (e2 : N.1 92 xr = nI xp) (h97 : N.1 97 xr = nI h) (hm : h ≤ m) (hj : j < 150) (hK : X 209 [some (aR 83), some (aI (nI xr)), some (aI (nI m)), some (aI sg), some (aI v4), some (aI (nI (j + 1))), some (aI v6), some (aI v7), some (aJ (p + sg.toInt64 <<< ((nI (m - h)).toInt64 &&& 63) * (N.1 (89 + xp) j).toInt64)), none, some (aJ (r + sg.toInt64 <<< ((nI (m - h)).toInt64 &&& 63) * (N.1 (93 + xp) j).toInt64)), none] [] N) : X 152 [some (aR 83), some (aI (nI xr)), some (aI (nI m)), some (aI sg), some (aI v4), some (aI (nI j)), some (aI v6), some (aI v7), some (aJ p), none, some (aJ r), none] [] N := by
  have hin : vp_in (nI xr) 3 := vp_in_nI (by omega) (by decide)
  rcases hx with ⟨rfl, rfl⟩ | ⟨rfl, rfl⟩ | ⟨rfl, rfl⟩
  all_goals (
    refine am_run hX 41 _ _ _ _ ?_
    conv => whnf
    first
    | rw [show N.1 88 (nI 1).toNatClampNeg = nI _ from e1]
    | rw [show N.1 88 (nI 2).toNatClampNeg = nI _ from e1]
    refine ⟨⟨hin, by decide⟩, ?_⟩
    conv => whnf
    refine ⟨vp_in_nI (by show j < 150; omega) (by decide), ?_⟩
    conv => whnf
    refine ⟨hin, ?_⟩
    conv => whnf
    first
    | rw [show N.1 92 (nI 1).toNatClampNeg = nI _ from e2]
    | rw [show N.1 92 (nI 2).toNatClampNeg = nI _ from e2]
    refine ⟨⟨hin, by decide⟩, ?_⟩
    conv => whnf
    refine ⟨vp_in_nI (by show j < 150; omega) (by decide), ?_⟩
    conv => whnf
    refine ⟨hin, ?_⟩
    conv => whnf
    first
    | rw [nI_clamp (n := j) (by omega), show N.1 97 (nI 1).toNatClampNeg = nI h from h97, nI_sub hm, nI_1, sh_s, sh_s]
    | rw [nI_clamp (n := j) (by omega), show N.1 97 (nI 2).toNatClampNeg = nI h from h97, nI_sub hm, nI_1, sh_s, sh_s]
    exact hK)
end MRG
