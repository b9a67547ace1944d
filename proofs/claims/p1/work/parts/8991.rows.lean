/-! ROWS of a TABLE: what the class's turns by h and s do to one -/
abbrev RW : Type := Nat × Nat × Nat
def rw_ok (y : RW) : Prop := y.1 < 2 ^ 20 ∧ y.2.1 < 2 ^ 20 ∧ y.2.2 < 2
def bt (n a : Nat) : Nat := n / 2 ^ a % 2
def nS (a : Nat) (y : RW) : RW := (y.1, y.2.1 ^^^ (y.1 &&& 2 ^ a), y.2.2 ^^^ bt (y.1 &&& y.2.1) a)
def nH (a : Nat) (y : RW) : RW := (y.1 ^^^ ((y.1 ^^^ y.2.1) &&& 2 ^ a), y.2.1 ^^^ ((y.1 ^^^ y.2.1) &&& 2 ^ a), y.2.2 ^^^ bt (y.1 &&& y.2.1) a)
/-- row r of the class's TABLE, of the reference's -/
def rA (M : mm_M) (r : Nat) (y : RW) : Prop := M.1 26 r = nI y.1 ∧ M.1 27 r = nI y.2.1 ∧ M.1 28 r = nI y.2.2
def rB (M : mm_M) (r : Nat) (y : RW) : Prop := M.1 157 r = nI y.1 ∧ M.1 158 r = nI y.2.1 ∧ M.1 159 r = nI y.2.2
def wA (M : mm_M) (r : Nat) (y : RW) : mm_M := mm_i (mm_i (mm_i M 26 (upd (M.1 26) r (nI y.1))) 27 (upd (M.1 27) r (nI y.2.1))) 28 (upd (M.1 28) r (nI y.2.2))
def wB (M : mm_M) (r : Nat) (y : RW) : mm_M := mm_i (mm_i (mm_i M 157 (upd (M.1 157) r (nI y.1))) 158 (upd (M.1 158) r (nI y.2.1))) 159 (upd (M.1 159) r (nI y.2.2))
theorem upd_eq {f : Nat → Int32} {r : Nat} {v : Int32} (h : f r = v) : upd f r v = f := by rw [← h, upd_self]
section RWS
variable {d : Nat} {M : mm_M}
theorem wA_of {N : mm_M} {r : Nat} {y : RW} (h2 : N.2 = M.2) (h6 : N.1 26 = upd (M.1 26) r (nI y.1)) (h7 : N.1 27 = upd (M.1 27) r (nI y.2.1)) (h8 : N.1 28 = upd (M.1 28) r (nI y.2.2)) (hk : ∀ k, k ≠ 26 → k ≠ 27 → k ≠ 28 → N.1 k = M.1 k) : N = wA M r y := by
  refine Prod.ext (funext fun k => ?_) h2
  by_cases k6 : k = 26
  · subst k6; rw [h6]; simp [wA, mm_i]
  · by_cases k7 : k = 27
    · subst k7; rw [h7]; simp [wA, mm_i]
    · by_cases k8 : k = 28
      · subst k8; rw [h8]; simp [wA, mm_i]
      · rw [hk k k6 k7 k8]; simp [wA, mm_i, k6, k7, k8]
theorem wB_of {N : mm_M} {r : Nat} {y : RW} (h2 : N.2 = M.2) (h6 : N.1 157 = upd (M.1 157) r (nI y.1)) (h7 : N.1 158 = upd (M.1 158) r (nI y.2.1)) (h8 : N.1 159 = upd (M.1 159) r (nI y.2.2)) (hk : ∀ k, k ≠ 157 → k ≠ 158 → k ≠ 159 → N.1 k = M.1 k) : N = wB M r y := by
  refine Prod.ext (funext fun k => ?_) h2
  by_cases k6 : k = 157
  · subst k6; rw [h6]; simp [wB, mm_i]
  · by_cases k7 : k = 158
    · subst k7; rw [h7]; simp [wB, mm_i]
    · by_cases k8 : k = 159
      · subst k8; rw [h8]; simp [wB, mm_i]
      · rw [hk k k6 k7 k8]; simp [wB, mm_i, k6, k7, k8]
theorem nI_bt {n a : Nat} (hn : n < 2 ^ 20) (ha : a < 20) : nI n >>> (nI a &&& 31) &&& 1 = nI (bt n a) := by
  rw [nI_sh (by omega) a (by omega), nI_m1]
  rfl
theorem and20 {a b : Nat} (h : a < 2 ^ 20) : a &&& b < 2 ^ 20 := Nat.lt_of_le_of_lt Nat.and_le_left h
set_option maxRecDepth 100000 in
theorem ct_turnS {r a : Nat} {y : RW} (hr : r < 20) (ha : a < 20) (h : rA M r y) (hy : rw_ok y) : am_M (d + 1) false nm_X8_turnByS [aR 25, aI (nI r), aI (nI a)] M (am_q0 (wA M r (nS a y))) := by
  obtain ⟨h6, h7, h8⟩ := h
  obtain ⟨y1, y2, y3⟩ := hy
  refine ⟨rfl, rfl, rfl, fun X hX => am_run hX 60 _ _ _ _ ?_⟩
  conv => whnf
  iterate 7
    refine ⟨vp_in_nI (by show r < 20; omega) (by decide), ?_⟩
    conv => whnf
  refine ⟨trivial, rfl, ?_⟩
  rw [nI_clamp (n := r) (by omega), mm_ne _ 28 27 _ (by decide), mm_ne _ 28 26 _ (by decide), h6, h7, h8, nI_and, nI_bt (and20 y1) ha, nI_xor, sh2 a (by omega), nI_and, nI_xor]
  exact wA_of rfl (by simp only [nS, mm_i]; exact (upd_eq h6).symm) (by simp [nS, mm_i]) (by simp [nS, mm_i]) (fun k k6 k7 k8 => by simp [mm_i, k7, k8])
set_option maxRecDepth 100000 in
theorem ct_turnH {r a : Nat} {y : RW} (hr : r < 20) (ha : a < 20) (h : rA M r y) (hy : rw_ok y) : am_M (d + 1) false nm_X8_turnByH [aR 25, aI (nI r), aI (nI a)] M (am_q0 (wA M r (nH a y))) := by
  obtain ⟨h6, h7, h8⟩ := h
  obtain ⟨y1, y2, y3⟩ := hy
  refine ⟨rfl, rfl, rfl, fun X hX => am_run hX 80 _ _ _ _ ?_⟩
  conv => whnf
  iterate 10
    refine ⟨vp_in_nI (by show r < 20; omega) (by decide), ?_⟩
    conv => whnf
  refine ⟨trivial, rfl, ?_⟩
  rw [nI_clamp (n := r) (by omega), mm_ne _ 26 27 _ (by decide), mm_ne _ 28 26 _ (by decide), mm_ne _ 28 27 _ (by decide), h6, h7, h8, nI_and, nI_bt (and20 y1) ha, sh2 a (by omega)]
  simp only [nI_xor, nI_and]
  exact wA_of rfl (by simp [nH, mm_i]) (by simp [nH, mm_i]) (by simp [nH, mm_i]) (fun k k6 k7 k8 => by simp [mm_i, k6, k7, k8])
/-- what the reference's single does, bits bx and bz of WIRE a -/
def sg (k a : Nat) (y : RW) : RW := if k = 0 then (y.1, y.2.1, y.2.2 ^^^ bt y.2.1 a) else if k = 1 then (y.1, y.2.1, y.2.2 ^^^ (bt y.1 a ^^^ bt y.2.1 a)) else if k = 2 then (y.1, y.2.1, y.2.2 ^^^ bt y.1 a) else if k = 3 then ((y.1 ^^^ (y.1 &&& 2 ^ a)) ||| bt y.2.1 a * 2 ^ a, (y.2.1 ^^^ (y.2.1 &&& 2 ^ a)) ||| bt y.1 a * 2 ^ a, y.2.2 ^^^ (bt y.1 a &&& bt y.2.1 a)) else (y.1, y.2.1 ^^^ bt y.1 a * 2 ^ a, y.2.2 ^^^ (bt y.1 a &&& bt y.2.1 a))
theorem bt_lt (n a : Nat) : bt n a < 2 := Nat.mod_lt _ (by decide)
theorem bt_sh {n a c : Nat} (hc : c < 20) : bt n a * 2 ^ c < 2 ^ 32 := by
  have h1 := bt_lt n a
  have h2 : 2 ^ c ≤ 2 ^ 20 := Nat.pow_le_pow_right (by decide) (by omega)
  have h3 : bt n a * 2 ^ c ≤ 1 * 2 ^ 20 := Nat.mul_le_mul (by omega) h2
  omega
set_option maxRecDepth 100000 in
theorem ct_single {k r a : Nat} {y : RW} (hk : k < 5) (hr : r < 20) (ha : a < 20) (h : rB M r y) (hy : rw_ok y) : am_M (d + 1) false nm_X12_single [aR 108, aI (nI r), aI (nI k), aI (nI a), aI (nI (bt y.1 a)), aI (nI (bt y.2.1 a))] M (am_q0 (wB M r (sg k a y))) := by
  obtain ⟨h6, h7, h8⟩ := h
  obtain ⟨y1, y2, y3⟩ := hy
  have hin : vp_in (nI r) 20 := vp_in_nI hr (by decide)
  have e1 := upd_eq h6
  have e2 := upd_eq h7
  refine ⟨rfl, rfl, rfl, fun X hX => am_run hX 80 _ _ _ _ ?_⟩
  rcases (by omega : k = 0 ∨ k = 1 ∨ k = 2 ∨ k = 3 ∨ k = 4) with rfl | rfl | rfl | rfl | rfl
  · conv => whnf
    refine ⟨fun _ => ?_, fun c => absurd rfl c⟩
    conv => whnf
    iterate 2
      refine ⟨hin, ?_⟩
      conv => whnf
    refine ⟨trivial, rfl, ?_⟩
    rw [nI_clamp (n := r) (by omega), h8]
    simp only [nI_xor, nI_and]
    exact wB_of rfl (by simp [sg, mm_i, e1]) (by simp [sg, mm_i, e2]) (by simp [sg, mm_i]) (fun k k6 k7 k8 => by simp [mm_i, k8])
  · conv => whnf
    refine ⟨fun c => absurd c (by decide), fun _ => ?_⟩
    refine ⟨fun _ => ?_, fun c => absurd rfl c⟩
    conv => whnf
    iterate 2
      refine ⟨hin, ?_⟩
      conv => whnf
    refine ⟨trivial, rfl, ?_⟩
    rw [nI_clamp (n := r) (by omega), h8]
    simp only [nI_xor, nI_and]
    exact wB_of rfl (by simp [sg, mm_i, e1]) (by simp [sg, mm_i, e2]) (by simp [sg, mm_i]) (fun k k6 k7 k8 => by simp [mm_i, k8])
  · conv => whnf
    refine ⟨fun c => absurd c (by decide), fun _ => ?_⟩
    refine ⟨fun c => absurd c (by decide), fun _ => ?_⟩
    refine ⟨fun _ => ?_, fun c => absurd rfl c⟩
    conv => whnf
    iterate 2
      refine ⟨hin, ?_⟩
      conv => whnf
    refine ⟨trivial, rfl, ?_⟩
    rw [nI_clamp (n := r) (by omega), h8]
    simp only [nI_xor, nI_and]
    exact wB_of rfl (by simp [sg, mm_i, e1]) (by simp [sg, mm_i, e2]) (by simp [sg, mm_i]) (fun k k6 k7 k8 => by simp [mm_i, k8])
  · conv => whnf
    refine ⟨fun c => absurd c (by decide), fun _ => ?_⟩
    refine ⟨fun c => absurd c (by decide), fun _ => ?_⟩
    refine ⟨fun c => absurd c (by decide), fun _ => ?_⟩
    refine ⟨fun _ => ?_, fun c => absurd rfl c⟩
    conv => whnf
    iterate 6
      refine ⟨hin, ?_⟩
      conv => whnf
    refine ⟨trivial, rfl, ?_⟩
    rw [nI_clamp (n := r) (by omega), mm_ne _ 157 158 _ (by decide), mm_ne _ 159 158 _ (by decide), mm_ne _ 159 157 _ (by decide), h6, h7, h8, sh2 a (by omega), nI_shl (by omega) (bt_sh ha), nI_shl (by omega) (bt_sh ha), nI_andn, nI_andn]
    simp only [nI_xor, nI_and, nI_or]
    exact wB_of rfl (by simp [sg, mm_i]) (by simp [sg, mm_i]) (by simp [sg, mm_i]) (fun k k6 k7 k8 => by simp [mm_i, k6, k7, k8])
  · conv => whnf
    refine ⟨fun c => absurd c (by decide), fun _ => ?_⟩
    refine ⟨fun c => absurd c (by decide), fun _ => ?_⟩
    refine ⟨fun c => absurd c (by decide), fun _ => ?_⟩
    refine ⟨fun c => absurd c (by decide), fun _ => ?_⟩
    conv => whnf
    iterate 4
      refine ⟨hin, ?_⟩
      conv => whnf
    refine ⟨trivial, rfl, ?_⟩
    rw [nI_clamp (n := r) (by omega), mm_ne _ 159 158 _ (by decide), h7, h8, nI_shl (by omega) (bt_sh ha)]
    simp only [nI_xor, nI_and]
    exact wB_of rfl (by simp [sg, mm_i, e1]) (by simp [sg, mm_i]) (by simp [sg, mm_i]) (fun k k6 k7 k8 => by simp [mm_i, k7, k8])
end RWS
