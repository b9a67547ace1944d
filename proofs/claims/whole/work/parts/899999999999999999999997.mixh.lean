/-! mix, the reference: a gate -/
def mhF (M N : mm_M) : Prop := (∀ k, k ≠ 108 → N.1 k = M.1 k) ∧ (∀ j, j ≠ 74 → N.1 108 j = M.1 108 j) ∧ N.1 108 74 = 0 ∧ ∀ c, c ≠ 118 → c ≠ 119 → c ≠ 152 → c ≠ 161 → c ≠ 162 → c ≠ 163 → N.2 c = M.2 c
section MXH
variable {d W K a : Nat} {M : mm_M} {x : bk_X} {xs : Nat → R4}
/-- the OP at its place -/
def opA (M : mm_M) (a : Nat) (x : bk_X) : Prop := a < 6300 ∧ M.1 112 a = nI x.1 ∧ M.1 113 a = nI x.2.1 ∧ M.1 114 a = nI x.2.2.1 ∧ M.1 115 a = nI x.2.2.2.1
set_option maxRecDepth 100000 in
theorem ct_mixG (hW : W ≤ 3) (hg : ogd W x) (h8 : x.1 ≤ 8) (hK : mxK x K ≤ 120) (e88 : M.1 108 88 = nI W) (ho : opA M a x) (hs : sI (fun c => nrm (xs c)) (2 ^ (2 * W)) ≤ 2 ^ K) (hY : ∀ i b, i < 2 ^ W → b < 2 ^ W → at5 (M.2 162) (5 * (8 * i + b)) (red K (xs (i + 2 ^ W * b))).1 (red K (xs (i + 2 ^ W * b))).2) : am_M (d + 7) false nm_X12_mixGate [aR 108, aI (nI a)] M (fun r N => r = .inl none ∧ mhF M N ∧ ∀ i b, i < 2 ^ W → b < 2 ^ W → at5 (N.2 162) (5 * (8 * i + b)) (red (mxK x K) (mxG W x xs (i + 2 ^ W * b))).1 (red (mxK x K) (mxG W x xs (i + 2 ^ W * b))).2) := by
  obtain ⟨a63, o1, o2, o3, o4⟩ := ho
  have ow := hg.1
  have hap : apo x.1 x.2.1 x.2.2.1 x.2.2.2.1 W := ⟨ow.2.1, ow.2.2.2.1, hg.2.1, hg.2.2⟩
  have cl : ∀ i b, i < 2 ^ W → b < 2 ^ W → i + 2 ^ W * b < 2 ^ (2 * W) := fun i b hi hb => (sl_f hW hi hb ow.2.2.2.1 ow.2.1).2.2.2.2.2.2.2
  have pK : (2 : Int) ^ (K + 2) = 4 * 2 ^ K := by
    rw [Int.pow_add, Int.mul_comm]
    rfl
  have hK0 : K ≤ 120 := by
    unfold mxK at hK
    by_cases q : x.1 = 3
    · rw [if_pos q] at hK; omega
    · rw [if_neg q] at hK; omega
  have p3 : x.1 = 3 → (2 : Int) ^ (K + 2) ≤ 2 ^ 120 := fun q => by
    unfold mxK at hK
    rw [if_pos q] at hK
    exact p120 hK
  have p1 : (2 : Int) ^ K ≤ 2 ^ 120 := p120 hK0
  have pk0 : (0 : Int) ≤ 2 ^ K := Int.le_of_lt (Int.pow_pos (by decide))
  have B1 : ∀ i j, i < 2 ^ W → j < 2 ^ W → bd (mY1 W x xs i j) := fun i j hi hj => by
    have e : mY1 W x xs i j = gx x.1 x.2.1 x.2.2.1 x.2.2.2.1 false (2 ^ (2 * W)) xs (i + 2 ^ W * j) := (sl_1 hW hg xs hi hj).symm
    rw [e]
    have s := m1_nrm (xs := xs) hW hg
    have t := sI_at (F := fun c => nrm (gx x.1 x.2.1 x.2.2.1 x.2.2.2.1 false (2 ^ (2 * W)) xs c)) (2 ^ (2 * W)) (fun i _ => nrm0 _) (i + 2 ^ W * j) (cl i j hi hj)
    refine nrm_b2 ?_
    have t : nrm (gx x.1 x.2.1 x.2.2.1 x.2.2.2.1 false (2 ^ (2 * W)) xs (i + 2 ^ W * j)) ≤ sI (fun c => nrm (gx x.1 x.2.1 x.2.2.1 x.2.2.2.1 false (2 ^ (2 * W)) xs c)) (2 ^ (2 * W)) := t
    by_cases k3 : x.1 = 3
    · have := p3 k3
      rw [if_pos k3] at s
      omega
    · rw [if_neg k3] at s
      omega
  have B3 : ∀ i j, i < 2 ^ W → j < 2 ^ W → bd (mY3 W x xs i j) := fun i j hi hj => by
    have e : mxG W x xs (j + 2 ^ W * i) = cj (mY3 W x xs i j) := mx_eq hW hg h8 hj hi
    have s := mx_nrm (xs := xs) hW hg
    have t : nrm (mxG W x xs (j + 2 ^ W * i)) ≤ sI (fun c => nrm (mxG W x xs c)) (2 ^ (2 * W)) := sI_at (F := fun c => nrm (mxG W x xs c)) (2 ^ (2 * W)) (fun i _ => nrm0 _) (j + 2 ^ W * i) (cl j i hj hi)
    rw [e, nrm_cj] at t
    refine nrm_b2 ?_
    by_cases k3 : x.1 = 3
    · have := p3 k3
      rw [if_pos k3] at s
      omega
    · rw [if_neg k3] at s
      omega
  refine ⟨rfl, rfl, rfl, fun X hX => am_run hX 6 _ _ _ _ ?_⟩
  conv => whnf
  refine am_c0 (ct_aside0 (d := d + 5)) ?_
  conv => whnf
  refine am_run hX 4 _ _ _ _ ?_
  conv => whnf
  rw [show ∀ f, (mm_l M 161 f).1 108 88 = nI W from fun f => e88]
  have i1 : ∀ k, k ≠ 108 → (mm_i (mm_l M 161 (fun j => if j < 1280 then M.2 150 j else M.2 161 j)) 108 (upd ((mm_l M 161 (fun j => if j < 1280 then M.2 150 j else M.2 161 j)).1 108) 71 (nI W))).1 k = M.1 k := fun k a => if_neg a
  have i2 : ∀ j, j ≠ 71 → (mm_i (mm_l M 161 (fun j => if j < 1280 then M.2 150 j else M.2 161 j)) 108 (upd ((mm_l M 161 (fun j => if j < 1280 then M.2 150 j else M.2 161 j)).1 108) 71 (nI W))).1 108 j = M.1 108 j := fun j a => if_neg a
  have i3 : (mm_i (mm_l M 161 (fun j => if j < 1280 then M.2 150 j else M.2 161 j)) 108 (upd ((mm_l M 161 (fun j => if j < 1280 then M.2 150 j else M.2 161 j)).1 108) 71 (nI W))).1 108 71 = nI W := rfl
  have i4 : ∀ c, c ≠ 161 → (mm_i (mm_l M 161 (fun j => if j < 1280 then M.2 150 j else M.2 161 j)) 108 (upd ((mm_l M 161 (fun j => if j < 1280 then M.2 150 j else M.2 161 j)).1 108) 71 (nI W))).2 c = M.2 c := fun c a => if_neg a
  have i5 : (mm_i (mm_l M 161 (fun j => if j < 1280 then M.2 150 j else M.2 161 j)) 108 (upd ((mm_l M 161 (fun j => if j < 1280 then M.2 150 j else M.2 161 j)).1 108) 71 (nI W))).2 161 = fun j => if j < 1280 then M.2 150 j else M.2 161 j := rfl
  generalize mm_i (mm_l M 161 (fun j => if j < 1280 then M.2 150 j else M.2 161 j)) 108 (upd ((mm_l M 161 (fun j => if j < 1280 then M.2 150 j else M.2 161 j)).1 108) 71 (nI W)) = N0 at *
  have ro : rop N0 a x.1 x.2.1 x.2.2.1 x.2.2.2.1 W := by
    unfold rop
    rw [i3, i1 112 (by decide), i1 113 (by decide), i1 114 (by decide), i1 115 (by decide)]
    exact ⟨a63, by omega, rfl, o1, o2, o3, o4, ow.2.2.1⟩
  have e88' : N0.1 108 88 = nI W := (i2 88 (by decide)).trans e88
  refine am_run hX 3 _ _ _ _ ?_
  conv => whnf
  refine am_cq (ct_acol (d := d) (M := N0) (K := K) (Y := fun i b => xs (i + 2 ^ W * b)) hW (by omega) e88' ro hap h8 B1 (by rw [i4 162 (by decide)]; exact hY)) ?_
  rintro r N1 ⟨rfl, f1, y1⟩
  refine ⟨_, rfl, ?_⟩
  conv => whnf
  refine am_run hX 2 _ _ _ _ ?_
  conv => whnf
  refine am_cq (ct_adj (d := d + 4) (M := N1) (Y := fun i b => mY1 W x xs i b) hW ((f1.2.1 88 (by decide)).trans e88') y1) ?_
  rintro r N2 ⟨rfl, f2, g2, y2⟩
  refine ⟨_, rfl, ?_⟩
  conv => whnf
  have f12 := mgF_t f1 f2
  have K1 : (if x.1 = 3 then K + 1 else K) ≤ 120 := by
    unfold mxK at hK
    by_cases q : x.1 = 3
    · rw [if_pos q] at hK; rw [if_pos q]; omega
    · rw [if_neg q] at hK; rw [if_neg q]; omega
  refine am_run hX 3 _ _ _ _ ?_
  conv => whnf
  refine am_cq (ct_acol (d := d) (M := N2) (K := if x.1 = 3 then K + 1 else K) (Y := fun i b => cj (mY1 W x xs b i)) hW K1 ((f12.2.1 88 (by decide)).trans e88') (rop_F ro f12) hap h8 B3 y2) ?_
  rintro r N3 ⟨rfl, f3, y3⟩
  refine ⟨_, rfl, ?_⟩
  conv => whnf
  have f13 := mgF_t f12 f3
  refine am_run hX 2 _ _ _ _ ?_
  conv => whnf
  refine am_cq (ct_adj (d := d + 4) (M := N3) (Y := fun i b => mY3 W x xs i b) hW ((f13.2.1 88 (by decide)).trans e88') y3) ?_
  rintro r N4 ⟨rfl, f4, g4, y4⟩
  refine ⟨_, rfl, ?_⟩
  conv => whnf
  have f14 := mgF_t f13 f4
  refine am_run hX 3 _ _ _ _ ?_
  conv => whnf
  refine am_c0 (ct_aside1 (d := d + 5)) ?_
  conv => whnf
  refine am_run hX 3 _ _ _ _ ?_
  conv => whnf
  refine am_run hX 4 _ _ _ _ ?_
  conv => whnf
  have e150 : (fun j => if j < 1280 then N4.2 161 j else N4.2 150 j) = M.2 150 := funext fun j => by
    rw [f14.2.2.1 161 (by decide) (by decide) (by decide) (by decide) (by decide) (by decide), i5]
    by_cases c : j < 1280
    · rw [if_pos c]
      exact if_pos c
    · rw [if_neg c, f14.2.2.2 j (by omega), i4 150 (by decide)]
  have eKK : (if x.1 = 3 then (if x.1 = 3 then K + 1 else K) + 1 else (if x.1 = 3 then K + 1 else K)) = mxK x K := by
    unfold mxK
    by_cases q : x.1 = 3
    · rw [if_pos q, if_pos q, if_pos q]
    · rw [if_neg q, if_neg q, if_neg q]
  refine ⟨⟨rfl, rfl⟩, trivial, rfl, ⟨fun k a => ?_, fun j b => ?_, rfl, fun c a1 a2 a3 a4 a5 a6 => ?_⟩, fun i b hi hb => ?_⟩
  · have e : N4.1 k = M.1 k := (f14.1 k a).trans (i1 k a)
    simp [mm_i, mm_l, a, e]
  · by_cases c : j = 71
    · rw [c]
      rfl
    · have e : N4.1 108 j = M.1 108 j := (f14.2.1 j b).trans (i2 j c)
      show upd (upd (N4.1 108) 71 _) 74 0 j = M.1 108 j
      unfold upd
      rw [if_neg b, if_neg c]
      exact e
  · show (mm_l N4 150 (fun j => if j < 1280 then N4.2 161 j else N4.2 150 j)).2 c = M.2 c
    by_cases c5 : c = 150
    · rw [c5, mm_l2, e150]
    · rw [mm_lne _ 150 c _ c5, f14.2.2.1 c a1 a2 c5 a3 a5 a6, i4 c a4]
  · have y := y4 i b hi hb
    rw [eKK, ← mx_eq hW hg h8 hi hb] at y
    exact y
end MXH
