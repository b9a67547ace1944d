/-! mix, the reference: a gate on every column -/
def acR (K K1 : Nat) (Y Y1 : Nat → Nat → R4) (n i b : Nat) : R4 × Nat := if b < n then red K1 (Y1 i b) else red K (Y i b)
section MXB
variable {d : Nat} {M : mm_M}
theorem v4_y (M : mm_M) : v4 M (M.2 152) (M.2 119) (M.2 118) (M.2 150) = M := by
  unfold v4
  rw [mm_lz]
  have e1 : mm_l M 119 (M.2 119) = M := mm_lz M 119
  rw [e1]
  have e2 : mm_l M 118 (M.2 118) = M := mm_lz M 118
  rw [e2]
  exact mm_lz M 150
theorem v4_5 (M : mm_M) (q o f s : Nat → Int64) : (v4 M q o f s).2 150 = s := mm_l2 _ _ _
theorem rop_F {N : mm_M} {a kd t s c W : Nat} (h : rop M a kd t s c W) (f : mgF M N) : rop N a kd t s c W := by
  unfold rop
  rw [f.2.1 71 (by decide), f.1 112 (by decide), f.1 113 (by decide), f.1 114 (by decide), f.1 115 (by decide)]
  exact h
set_option maxRecDepth 100000 in
theorem ac_l {a kd t s c W K : Nat} {Y : Nat → Nat → R4} {Pp : am_Q} {X : am_X} (hX : am_K (d + 5) false nm_X12_applyColumns Pp X) (hW : W ≤ 3) (hK : K ≤ 120) (e88 : M.1 108 88 = nI W) (ho : rop M a kd t s c W) (hap : apo kd t s c W) (h8 : kd ≤ 8) (hb : ∀ i j, i < 2 ^ W → j < 2 ^ W → bd (gx kd t s c false (2 ^ W) (fun a => Y a j) i)) (hE : ∀ N, mgF M N → (∀ i b, i < 2 ^ W → b < 2 ^ W → at5 (N.2 162) (5 * (8 * i + b)) (red (if kd = 3 then K + 1 else K) (gx kd t s c false (2 ^ W) (fun a => Y a b) i)).1 (red (if kd = 3 then K + 1 else K) (gx kd t s c false (2 ^ W) (fun a => Y a b) i)).2) → Pp (.inl none) N) : ∀ m j N l3, j + m = 2 ^ W → mgF M N → (∀ i b, i < 2 ^ W → b < 2 ^ W → at5 (N.2 162) (5 * (8 * i + b)) (acR K (if kd = 3 then K + 1 else K) Y (fun i b => gx kd t s c false (2 ^ W) (fun a => Y a b) i) j i b).1 (acR K (if kd = 3 then K + 1 else K) Y (fun i b => gx kd t s c false (2 ^ W) (fun a => Y a b) i) j i b).2) → X 2 [some (aR 108), some (aI (nI a)), some (aI (nI j)), l3] [] N := by
  have w8 : 2 ^ W ≤ 8 := (Nat.pow_le_pow_right (n := 2) (by decide) hW : 2 ^ W ≤ 2 ^ 3)
  have hK1 : (if kd = 3 then K + 1 else K) ≤ 121 := by
    by_cases q : kd = 3
    · rw [if_pos q]; omega
    · rw [if_neg q]; omega
  intro m
  induction m with
  | zero =>
    intro j N l3 hj hf h
    have hj : j = 2 ^ W := by omega
    subst hj
    refine am_run hX 6 _ _ _ _ ?_
    conv => whnf
    rw [hf.2.1 88 (by decide), e88, sh2 W (by omega)]
    refine ⟨fun _ => ?_, fun c => absurd (nI_le (by omega) (by omega)) c⟩
    refine am_run hX 1 _ _ _ _ ?_
    conv => whnf
    refine ⟨trivial, hE N hf fun i b hi hb' => ?_⟩
    have := h i b hi hb'
    unfold acR at this
    rw [if_pos hb'] at this
    exact this
  | succ m ih =>
    intro j N l3 hj hf h
    have hj' : j < 2 ^ W := by omega
    refine am_run hX 6 _ _ _ _ ?_
    conv => whnf
    rw [hf.2.1 88 (by decide), e88, sh2 W (by omega)]
    refine ⟨fun c => absurd c (nI_ge (by omega) (by omega)), fun _ => ?_⟩
    refine am_run hX 2 _ _ _ _ ?_
    conv => whnf
    have hy : ∀ i, i < 2 ^ W → at5 (N.2 162) (5 * (8 * i + j)) (red K (Y i j)).1 (red K (Y i j)).2 := fun i hi => by
      have := h i j hi hj'
      unfold acR at this
      rw [if_neg (Nat.lt_irrefl _)] at this
      exact this
    refine ac_1 (d := d) (M := N) (ys := fun i => red K (Y i j)) hX hW (by omega) ((hf.2.1 88 (by decide)).trans e88) hy (fun N1 f1 g1 g2 => ?_) (2 ^ W) 0 N (by omega) (mgF_r N) rfl (fun i hi => absurd hi (Nat.not_lt_zero _))
    have ll : ∀ i, (red K (Y i j)).2 < 2 ^ 31 := fun i => by
      have := (red_v K (Y i j)).1
      omega
    have ec : N1.2 150 = c5 (N1.2 150) (2 ^ W) (fun i => red K (Y i j)) := c5_of (M := N1) (c := 150) (fun i _ => ll i) fun i hi => (at_rf (ll i)).mpr (g2 i hi)
    have e1 : N1 = v4 N1 (N1.2 152) (N1.2 119) (N1.2 118) (c5 (N1.2 150) (2 ^ W) (fun i => red K (Y i j))) := by
      rw [← ec]
      exact (v4_y N1).symm
    have key := ct_rap (d := d) (M := N1) (g := N1.2 150) (k := K) (xs := fun i => Y i j) (q := N1.2 152) (o := N1.2 119) (f := N1.2 118) (rop_F ho (mgF_t hf f1)) hap h8 (by omega) (fun i hi => hb i j hi hj')
    rw [← e1] at key
    refine am_run hX 3 _ _ _ _ ?_
    conv => whnf
    refine am_cq key ?_
    rintro r N2 ⟨rfl, q', o', f', e2⟩
    refine ⟨_, rfl, ?_⟩
    conv => whnf
    have f2 : mgF N1 N2 := by
      rw [e2]
      refine ⟨fun k a => if_neg a, fun j a => if_neg a, fun k a b e i j l => ?_, fun q hq => ?_⟩
      · simp [v4, mm_l, mm_i, a, b, e, i]
      · rw [v4_5]
        unfold c5
        rw [if_neg (by omega)]
    have g3 : N2.2 162 = N1.2 162 := by
      rw [e2]
      rfl
    have g4 : ∀ i, i < 2 ^ W → at5 (N2.2 150) (5 * i) (red (if kd = 3 then K + 1 else K) (gx kd t s c false (2 ^ W) (fun a => Y a j) i)).1 (red (if kd = 3 then K + 1 else K) (gx kd t s c false (2 ^ W) (fun a => Y a j) i)).2 := fun i hi => by
      rw [e2]
      exact c5_5 (ys := fun j' => red (if kd = 3 then K + 1 else K) (gx kd t s c false (2 ^ W) (fun i => Y i j) j')) hi
    refine am_run hX 2 _ _ _ _ ?_
    conv => whnf
    refine ac_2 (d := d) (M := N2) (ys := fun i => red (if kd = 3 then K + 1 else K) (gx kd t s c false (2 ^ W) (fun a => Y a j) i)) hX hW hj' (((mgF_t hf (mgF_t f1 f2)).2.1 88 (by decide)).trans e88) g4 (fun N3 f3 z1 z2 => ?_) (2 ^ W) 0 N2 (by omega) (mgF_r N2) rfl (fun i hi => absurd hi (Nat.not_lt_zero _)) (fun _ _ _ _ _ _ _ _ => rfl)
    refine am_run hX 2 _ _ _ _ ?_
    conv => whnf
    rw [nI_1]
    refine ih (j + 1) N3 _ (by omega) (mgF_t hf (mgF_t f1 (mgF_t f2 f3))) fun i b hi hb' => ?_
    unfold acR
    by_cases e : b = j
    · rw [if_pos (by omega), e]
      exact z1 i hi
    · have old := h i b hi hb'
      unfold acR at old
      have same : at5 (N3.2 162) (5 * (8 * i + b)) (if b < j then red (if kd = 3 then K + 1 else K) (gx kd t s c false (2 ^ W) (fun a => Y a b) i) else red K (Y i b)).1 (if b < j then red (if kd = 3 then K + 1 else K) (gx kd t s c false (2 ^ W) (fun a => Y a b) i) else red K (Y i b)).2 := at5_e (fun q q1 q2 => by rw [z2 i b hi hb' e q q1 q2, g3, g1]) old
      by_cases l : b < j
      · rw [if_pos l] at same
        rw [if_pos (by omega)]
        exact same
      · rw [if_neg l] at same
        rw [if_neg (by omega)]
        exact same
set_option maxRecDepth 100000 in
theorem ct_acol {a kd t s c W K : Nat} {Y : Nat → Nat → R4} (hW : W ≤ 3) (hK : K ≤ 120) (e88 : M.1 108 88 = nI W) (ho : rop M a kd t s c W) (hap : apo kd t s c W) (h8 : kd ≤ 8) (hb : ∀ i j, i < 2 ^ W → j < 2 ^ W → bd (gx kd t s c false (2 ^ W) (fun a => Y a j) i)) (hY : ∀ i b, i < 2 ^ W → b < 2 ^ W → at5 (M.2 162) (5 * (8 * i + b)) (red K (Y i b)).1 (red K (Y i b)).2) : am_M (d + 6) false nm_X12_applyColumns [aR 108, aI (nI a)] M (fun r N => r = .inl none ∧ mgF M N ∧ ∀ i b, i < 2 ^ W → b < 2 ^ W → at5 (N.2 162) (5 * (8 * i + b)) (red (if kd = 3 then K + 1 else K) (gx kd t s c false (2 ^ W) (fun a => Y a b) i)).1 (red (if kd = 3 then K + 1 else K) (gx kd t s c false (2 ^ W) (fun a => Y a b) i)).2) := by
  refine ⟨rfl, rfl, rfl, fun X hX => am_run hX 2 _ _ _ _ ?_⟩
  conv => whnf
  refine ac_l (d := d) (M := M) (Y := Y) hX hW hK e88 ho hap h8 hb (fun N f h => ⟨rfl, f, h⟩) (2 ^ W) 0 M _ (by omega) (mgF_r M) fun i b hi hb' => ?_
  unfold acR
  rw [if_neg (Nat.not_lt_zero _)]
  exact hY i b hi hb'
end MXB
