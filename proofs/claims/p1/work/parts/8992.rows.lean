/-! ROWS of a TABLE: the turns by two WIRES -/
section RWC
variable {d : Nat} {M : mm_M}
/-- what the reference's couple does -/
def cpl (k a b : Nat) (y : RW) : RW := if k = 5 then (y.1 ^^^ bt y.1 a * 2 ^ b, y.2.1 ^^^ bt y.2.1 b * 2 ^ a, y.2.2 ^^^ ((bt y.1 a &&& bt y.2.1 b) &&& (bt y.1 b ^^^ bt y.2.1 a ^^^ 1))) else if k = 6 then (y.1, y.2.1 ^^^ (bt y.1 b * 2 ^ a ||| bt y.1 a * 2 ^ b), y.2.2 ^^^ ((bt y.1 a &&& bt y.1 b) &&& (bt y.2.1 a ^^^ bt y.2.1 b))) else ((y.1 ^^^ (y.1 &&& (2 ^ a ||| 2 ^ b))) ||| bt y.1 b * 2 ^ a ||| bt y.1 a * 2 ^ b, (y.2.1 ^^^ (y.2.1 &&& (2 ^ a ||| 2 ^ b))) ||| bt y.2.1 b * 2 ^ a ||| bt y.2.1 a * 2 ^ b, y.2.2)
set_option maxRecDepth 100000 in
theorem ct_couple {k r a b : Nat} {y : RW} (hk : k = 5 ∨ k = 6 ∨ k = 7) (hr : r < 20) (ha : a < 20) (hb : b < 20) (h : rB M r y) (hy : rw_ok y) : am_M (d + 1) false nm_X12_couple [aR 108, aI (nI r), aI (nI k), aI (nI a), aI (nI b), aI (nI (bt y.1 a)), aI (nI (bt y.2.1 a))] M (am_q0 (wB M r (cpl k a b y))) := by
  obtain ⟨h6, h7, h8⟩ := h
  obtain ⟨y1, y2, y3⟩ := hy
  have hin : vp_in (nI r) 20 := vp_in_nI hr (by decide)
  have e1 := upd_eq h6
  have e2 := upd_eq h7
  have e3 := upd_eq h8
  refine ⟨rfl, rfl, rfl, fun X hX => am_run hX 120 _ _ _ _ ?_⟩
  conv => whnf
  refine ⟨hin, ?_⟩
  conv => whnf
  refine ⟨hin, ?_⟩
  rcases hk with rfl | rfl | rfl
  · conv => whnf
    refine ⟨fun _ => ?_, fun c => absurd rfl c⟩
    conv => whnf
    iterate 6
      refine ⟨hin, ?_⟩
      conv => whnf
    refine ⟨trivial, rfl, ?_⟩
    rw [nI_clamp (n := r) (by omega), mm_ne _ 157 158 _ (by decide), mm_ne _ 159 158 _ (by decide), mm_ne _ 159 157 _ (by decide), h6, h7, h8, nI_bt y1 hb, nI_bt y2 hb, nI_shl (by omega) (bt_sh hb), nI_shl (by omega) (bt_sh ha), show (1 : Int32) = nI 1 from rfl]
    simp only [nI_xor, nI_and, nI_or]
    exact wB_of rfl (by simp [cpl, mm_i]) (by simp [cpl, mm_i]) (by simp [cpl, mm_i]) (fun k k6 k7 k8 => by simp [mm_i, k6, k7, k8])
  · conv => whnf
    refine ⟨fun c => absurd c (by decide), fun _ => ?_⟩
    refine ⟨fun _ => ?_, fun c => absurd rfl c⟩
    conv => whnf
    iterate 4
      refine ⟨hin, ?_⟩
      conv => whnf
    refine ⟨trivial, rfl, ?_⟩
    rw [nI_clamp (n := r) (by omega), mm_ne _ 159 158 _ (by decide), h6, h7, h8, nI_bt y1 hb, nI_bt y2 hb, nI_shl (by omega) (bt_sh hb), nI_shl (by omega) (bt_sh ha)]
    simp only [nI_xor, nI_and, nI_or]
    exact wB_of rfl (by simp [cpl, mm_i, e1]) (by simp [cpl, mm_i]) (by simp [cpl, mm_i]) (fun k k6 k7 k8 => by simp [mm_i, k7, k8])
  · conv => whnf
    refine ⟨fun c => absurd c (by decide), fun _ => ?_⟩
    refine ⟨fun c => absurd c (by decide), fun _ => ?_⟩
    conv => whnf
    iterate 4
      refine ⟨hin, ?_⟩
      conv => whnf
    refine ⟨trivial, rfl, ?_⟩
    rw [nI_clamp (n := r) (by omega), mm_ne _ 157 158 _ (by decide), h6, h7, nI_bt y1 hb, nI_bt y2 hb, sh2 a (by omega), sh2 b (by omega), nI_or, nI_andn, nI_andn, nI_shl (by omega) (bt_sh hb), nI_shl (by omega) (bt_sh ha), nI_shl (by omega) (bt_sh hb), nI_shl (by omega) (bt_sh ha)]
    simp only [nI_xor, nI_and, nI_or]
    exact wB_of rfl (by simp [cpl, mm_i]) (by simp [cpl, mm_i]) (by simp [cpl, mm_i, e3]) (fun k k6 k7 k8 => by simp [mm_i, k6, k7])
/-- two bits of a number change places -/
def exg (a b n : Nat) : Nat := n ^^^ ((n / 2 ^ a ^^^ n / 2 ^ b) % 2 * 2 ^ a ||| (n / 2 ^ a ^^^ n / 2 ^ b) % 2 * 2 ^ b)
set_option maxRecDepth 100000 in
theorem ct_exg {a b n : Nat} (ha : a < 20) (hb : b < 20) (hn : n < 2 ^ 20) : am_M (d + 1) false nm_X8_exchanged [aI (nI n), aI (nI a), aI (nI b)] M (am_q1 (aI (nI (exg a b n))) M) := by
  have e (m c : Nat) (hc : c < 20) : m % 2 * 2 ^ c < 2 ^ 32 := by
    have h1 : m % 2 < 2 := Nat.mod_lt _ (by decide)
    have h2 : 2 ^ c ≤ 2 ^ 20 := Nat.pow_le_pow_right (by decide) (by omega)
    have h3 : m % 2 * 2 ^ c ≤ 1 * 2 ^ 20 := Nat.mul_le_mul (by omega) h2
    omega
  refine ⟨rfl, rfl, rfl, fun X hX => am_run hX 40 _ _ _ _ ?_⟩
  conv => whnf
  rw [nI_sh (by omega) a (by omega), nI_sh (by omega) b (by omega), nI_xor, nI_m1, nI_shl (by omega) (e _ _ ha), nI_shl (by omega) (e _ _ hb), nI_or, nI_xor]
  exact ⟨trivial, rfl, rfl⟩
theorem rA_w {r : Nat} {y : RW} : rA (wA M r y) r y := by
  refine ⟨?_, ?_, ?_⟩ <;> simp [wA, mm_i, upd]
theorem rB_w {r : Nat} {y : RW} : rB (wB M r y) r y := by
  refine ⟨?_, ?_, ?_⟩ <;> simp [wB, mm_i, upd]
theorem wA_w {r : Nat} {y z : RW} : wA (wA M r y) r z = wA M r z := by
  refine wA_of rfl ?_ ?_ ?_ (fun k k6 k7 k8 => by simp [wA, mm_i, k6, k7, k8])
  · simp [wA, mm_i, upd_two]
  · simp [wA, mm_i, upd_two]
  · simp [wA, mm_i, upd_two]
/-- the class's turn of z at p by q -/
def nC (p q : Nat) (y : RW) : RW := (y.1, y.2.1 ^^^ (bt y.1 p * 2 ^ q ||| bt y.1 q * 2 ^ p), y.2.2 ^^^ ((bt y.1 p &&& bt y.1 q) &&& (y.2.1 / 2 ^ p ^^^ y.2.1 / 2 ^ q)))
theorem pw20 {a : Nat} (ha : a < 20) : 2 ^ a < 2 ^ 20 := Nat.pow_lt_pow_right (by decide) ha
theorem bt20 {n a c : Nat} (hc : c < 20) : bt n a * 2 ^ c < 2 ^ 20 := by
  have h1 := bt_lt n a
  have h2 := pw20 hc
  have h3 : bt n a * 2 ^ c ≤ 1 * 2 ^ c := Nat.mul_le_mul (by omega) (Nat.le_refl _)
  omega
theorem ok_nH {a : Nat} {y : RW} (ha : a < 20) (h : rw_ok y) : rw_ok (nH a y) := ⟨Nat.xor_lt_two_pow h.1 (and20 (Nat.xor_lt_two_pow h.1 h.2.1)), Nat.xor_lt_two_pow h.2.1 (and20 (Nat.xor_lt_two_pow h.1 h.2.1)), Nat.xor_lt_two_pow (n := 1) h.2.2 (bt_lt _ _)⟩
theorem ok_nS {a : Nat} {y : RW} (ha : a < 20) (h : rw_ok y) : rw_ok (nS a y) := ⟨h.1, Nat.xor_lt_two_pow h.2.1 (and20 h.1), Nat.xor_lt_two_pow (n := 1) h.2.2 (bt_lt _ _)⟩
theorem ok_nC {p q : Nat} {y : RW} (hp : p < 20) (hq : q < 20) (h : rw_ok y) : rw_ok (nC p q y) := ⟨h.1, Nat.xor_lt_two_pow h.2.1 (Nat.or_lt_two_pow (bt20 hq) (bt20 hp)), Nat.xor_lt_two_pow (n := 1) h.2.2 (Nat.lt_of_le_of_lt Nat.and_le_left (Nat.lt_of_le_of_lt Nat.and_le_left (bt_lt _ _)))⟩
set_option maxRecDepth 100000 in
theorem ct_ctl2 {r p q : Nat} {y : RW} (hr : r < 20) (hp : p < 20) (hq : q < 20) (h : rA M r y) (hy : rw_ok y) : am_M (d + 2) false nm_X8_turnByControlled [aR 25, aI 2, aI (nI r), aI (nI p), aI (nI q)] M (am_q0 (wA M r (nC p q y))) := by
  have hin : vp_in (nI r) 20 := vp_in_nI hr (by decide)
  obtain ⟨h6, h7, h8⟩ := h
  obtain ⟨y1, y2, y3⟩ := hy
  have e1 := upd_eq h6
  refine ⟨rfl, rfl, rfl, fun X hX => am_run hX 120 _ _ _ _ ?_⟩
  conv => whnf
  refine ⟨fun _ => ?_, fun c => absurd (by decide) c⟩
  conv => whnf
  refine ⟨fun _ => ?_, fun c => absurd rfl c⟩
  conv => whnf
  iterate 8
    refine ⟨hin, ?_⟩
    conv => whnf
  refine ⟨fun _ => ?_, fun c => absurd rfl c⟩
  conv => whnf
  refine ⟨fun _ => ?_, fun c => absurd (by decide) c⟩
  conv => whnf
  refine ⟨trivial, rfl, ?_⟩
  rw [nI_clamp (n := r) (by omega), mm_ne _ 28 27 _ (by decide), h6, h7, h8, nI_bt y1 hp, nI_bt y1 hq, nI_sh (by omega) p (by omega), nI_sh (by omega) q (by omega), nI_shl (by omega) (bt_sh hq), nI_shl (by omega) (bt_sh hp)]
  simp only [nI_xor, nI_and, nI_or]
  exact wA_of rfl (by simp [nC, mm_i, e1]) (by simp [nC, mm_i]) (by simp [nC, mm_i]) (fun k k6 k7 k8 => by simp [mm_i, k7, k8])
theorem cz_w {N : mm_M} {r p q : Nat} {y : RW} (h6 : N.1 26 r = nI y.1) : mm_i (mm_i N 28 (upd (N.1 28) r (nI (y.2.2 ^^^ (bt y.1 p &&& bt y.1 q &&& (y.2.1 / 2 ^ p ^^^ y.2.1 / 2 ^ q)))))) 27 (upd (N.1 27) r (nI (y.2.1 ^^^ (bt y.1 p * 2 ^ q ||| bt y.1 q * 2 ^ p)))) = wA N r (nC p q y) := by
  have e1 := upd_eq h6
  exact wA_of rfl (by simp [nC, mm_i, e1]) (by simp [nC, mm_i]) (by simp [nC, mm_i]) (fun k k6 k7 k8 => by simp [mm_i, k7, k8])
set_option maxRecDepth 100000 in
theorem ct_ctl0 {r p q : Nat} {y : RW} (hr : r < 20) (hp : p < 20) (hq : q < 20) (h : rA M r y) (hy : rw_ok y) : am_M (d + 2) false nm_X8_turnByControlled [aR 25, aI 0, aI (nI r), aI (nI p), aI (nI q)] M (am_q0 (wA M r (nH p (nC p q (nH p y))))) := by
  have hin : vp_in (nI r) 20 := vp_in_nI hr (by decide)
  have ok1 := ok_nH hp hy
  have ok2 := ok_nC hp hq ok1
  obtain ⟨h6, h7, h8⟩ : rA (wA M r (nH p y)) r (nH p y) := rA_w
  have e1 := upd_eq h6
  have y1 := ok1.1
  have y2 := ok1.2.1
  refine ⟨rfl, rfl, rfl, fun X hX => am_run hX 120 _ _ _ _ ?_⟩
  conv => whnf
  refine ⟨fun _ => ?_, fun c => absurd (by decide) c⟩
  conv => whnf
  refine ⟨fun c => absurd c (by decide), fun _ => ?_⟩
  conv => whnf
  refine am_c0 (ct_turnH (d := d) hr hp h hy) ?_
  conv => whnf
  iterate 8
    refine ⟨hin, ?_⟩
    conv => whnf
  refine ⟨fun c => absurd c (by decide), fun _ => ?_⟩
  conv => whnf
  rw [nI_clamp (n := r) (by omega), mm_ne _ 28 27 _ (by decide), h6, h7, h8, nI_bt y1 hp, nI_bt y1 hq, nI_sh (by omega) p (by omega), nI_sh (by omega) q (by omega), nI_shl (by omega) (bt_sh hq), nI_shl (by omega) (bt_sh hp)]
  simp only [nI_xor, nI_and, nI_or]
  rw [cz_w h6, wA_w]
  refine am_c0 (ct_turnH (d := d) hr hp rA_w ok2) ?_
  conv => whnf
  refine ⟨fun _ => ?_, fun c => absurd (by decide) c⟩
  conv => whnf
  exact ⟨trivial, rfl, wA_w⟩
end RWC
