/-! how many bits are 1: Integer.bitCount, the reference's count, the bank's lowest -/
theorem nI_xor (a b : Nat) : nI a ^^^ nI b = nI (a ^^^ b) := by
  apply Int32.toBitVec_inj.mp
  simp [nI]
theorem nI_or (a b : Nat) : nI a ||| nI b = nI (a ||| b) := by
  apply Int32.toBitVec_inj.mp
  simp [nI]
theorem nI_sub {a b : Nat} (h : b ≤ a) : nI a - nI b = nI (a - b) := by
  have : nI a = nI (a - b) + nI b := by rw [nI_add, Nat.sub_add_cancel h]
  rw [this, Int32.add_sub_cancel]
theorem nI_us {n : Nat} (h : n < 2 ^ 32) (k : Nat) (hk : k < 32) : ((nI n).toUInt32 >>> ((nI k).toUInt32 &&& Int32.toUInt32 31)).toInt32 = nI (n / 2 ^ k) := pk_ushrN h _ k (by
  have : ∀ k, k < 32 → (((nI k).toUInt32 &&& Int32.toUInt32 31).toBitVec % 32).toNat = k := by decide +kernel
  exact this k hk)
/-- bits 0 .. k - 1 -/
def pcn : Nat → Nat → Nat
  | 0, _ => 0
  | k + 1, n => n % 2 + pcn k (n / 2)
def pc (n : Nat) : Nat := pcn 32 n
def sw1 (n : Nat) : Nat := n - (n / 2 ^ 1 &&& 1431655765)
def sw2 (n : Nat) : Nat := (n &&& 858993459) + (n / 2 ^ 2 &&& 858993459)
def sw3 (n : Nat) : Nat := (n + n / 2 ^ 4) &&& 252645135
def sw4 (n : Nat) : Nat := n + n / 2 ^ 8
def sw5 (n : Nat) : Nat := n + n / 2 ^ 16
def swr (n : Nat) : Nat := sw5 (sw4 (sw3 (sw2 (sw1 n)))) &&& 63
theorem land_sp (k x y m p : Nat) (hx : x < 2 ^ k) (hm : m < 2 ^ k) : (2 ^ k * y + x) &&& (2 ^ k * p + m) = 2 ^ k * (y &&& p) + (x &&& m) := by
  apply Nat.eq_of_testBit_eq
  intro i
  have hxm : x &&& m < 2 ^ k := Nat.and_lt_two_pow x hm
  rw [Nat.testBit_and, Nat.testBit_two_pow_mul_add _ hx, Nat.testBit_two_pow_mul_add _ hm, Nat.testBit_two_pow_mul_add _ hxm]
  by_cases h : i < k
  · simp [h]
  · simp [h]
def f1 (x : Nat) : Nat := x - (x / 2 &&& 85)
def f2 (x : Nat) : Nat := (x &&& 51) + (x / 4 &&& 51)
def f3 (x : Nat) : Nat := (x + x / 16) &&& 15
theorem f_a : ∀ x, x < 256 → (x / 2 &&& 5592405) = (x / 2 &&& 85) ∧ (x &&& 3355443) = (x &&& 51) ∧ (x / 4 &&& 3355443) = (x / 4 &&& 51) ∧ f1 x < 256 ∧ f2 (f1 x) ≤ 68 ∧ f2 (f1 x) % 16 ≤ 4 ∧ f3 (f2 (f1 x)) = pcn 8 x ∧ f3 (f2 (f1 x)) ≤ 8 ∧ (x / 2 &&& 85) ≤ x := by decide +kernel
theorem f_b : ∀ x, x < 128 → (x &&& 986895) = x &&& 15 := by decide +kernel
theorem sw1_s {h l : Nat} (hh : h < 256) (hl : l < 256) : sw1 (256 * h + l) = 256 * f1 h + f1 l := by
  unfold sw1
  have e1 : (256 * h + l) / 2 ^ 1 = 2 ^ 8 * (h / 2) + (2 ^ 7 * (h % 2) + l / 2) := by omega
  have e2 : (1431655765 : Nat) = 2 ^ 8 * 5592405 + (2 ^ 7 * 0 + 85) := by decide
  rw [e1, e2, land_sp 8 _ _ _ _ (by omega) (by decide), land_sp 7 _ _ _ _ (by omega) (by decide), Nat.and_zero, (f_a h hh).1]
  have a1 := (f_a h hh).2.2.2.2.2.2.2.2
  have a2 := (f_a l hl).2.2.2.2.2.2.2.2
  unfold f1
  omega
theorem sw2_s {u v : Nat} (hu : u < 256) (hv : v < 256) : sw2 (256 * u + v) = 256 * f2 u + f2 v := by
  unfold sw2
  have e0 : 256 * u + v = 2 ^ 8 * u + v := by omega
  have e1 : (256 * u + v) / 2 ^ 2 = 2 ^ 8 * (u / 4) + (2 ^ 6 * (u % 4) + v / 4) := by omega
  have e2 : (858993459 : Nat) = 2 ^ 8 * 3355443 + 51 := by decide
  have e3 : (858993459 : Nat) = 2 ^ 8 * 3355443 + (2 ^ 6 * 0 + 51) := by decide
  have e4 : (256 * u + v) &&& 858993459 = 2 ^ 8 * (u &&& 51) + (v &&& 51) := by
    rw [e0, e2, land_sp 8 _ _ _ _ (by omega) (by decide), (f_a u hu).2.1]
  have e5 : (256 * u + v) / 2 ^ 2 &&& 858993459 = 2 ^ 8 * (u / 4 &&& 51) + (v / 4 &&& 51) := by
    rw [e1, e3, land_sp 8 _ _ _ _ (by omega) (by decide), land_sp 6 _ _ _ _ (by omega) (by decide), Nat.and_zero, (f_a u hu).2.2.1]
    omega
  rw [e4, e5]
  unfold f2
  omega
theorem sw3_s {u v : Nat} (hu : u ≤ 68) (hv : v ≤ 68) (hn : u % 16 ≤ 4) : sw3 (256 * u + v) = 256 * f3 u + f3 v := by
  unfold sw3
  have e1 : 256 * u + v + (256 * u + v) / 2 ^ 4 = 2 ^ 8 * (u + u / 16) + (16 * (u % 16) + v + v / 16) := by omega
  have e2 : (252645135 : Nat) = 2 ^ 8 * 986895 + 15 := by decide
  rw [e1, e2, land_sp 8 _ _ _ _ (by omega) (by decide), f_b (u + u / 16) (by omega)]
  have e3 : (16 * (u % 16) + v + v / 16) &&& 15 = (v + v / 16) &&& 15 := by
    rw [show (15 : Nat) = 2 ^ 4 - 1 from rfl, Nat.and_two_pow_sub_one_eq_mod, Nat.and_two_pow_sub_one_eq_mod]
    omega
  rw [e3]
  rfl
theorem pcn_sp : ∀ (k h l : Nat), l < 2 ^ k → ∀ j, pcn (k + j) (2 ^ k * h + l) = pcn k l + pcn j h
  | 0, h, l, hl, j => by
    have : l = 0 := by simpa using hl
    subst this
    simp [pcn]
  | k + 1, h, l, hl, j => by
    rw [show k + 1 + j = k + j + 1 by omega]
    simp only [pcn]
    have e1 : (2 ^ (k + 1) * h + l) / 2 = 2 ^ k * h + l / 2 := by rw [Nat.pow_succ]; rw [show 2 ^ k * 2 * h = 2 * (2 ^ k * h) by rw [Nat.mul_comm (2 ^ k) 2, Nat.mul_assoc]]; omega
    have e2 : (2 ^ (k + 1) * h + l) % 2 = l % 2 := by rw [Nat.pow_succ]; rw [show 2 ^ k * 2 * h = 2 * (2 ^ k * h) by rw [Nat.mul_comm (2 ^ k) 2, Nat.mul_assoc]]; omega
    rw [e1, e2, pcn_sp k h (l / 2) (by rw [Nat.pow_succ] at hl; omega) j]
    omega
theorem pcn_le : ∀ k n : Nat, n < 2 ^ k → ∀ j, pcn (k + j) n = pcn k n
  | 0, n, h, j => by
    have : n = 0 := by simpa using h
    subst this
    induction j with
    | zero => rfl
    | succ j ih =>
      rw [Nat.zero_add] at ih ⊢
      simpa [pcn] using ih
  | k + 1, n, h, j => by
    rw [show k + 1 + j = k + j + 1 by omega]
    simp only [pcn]
    rw [pcn_le k (n / 2) (by rw [Nat.pow_succ] at h; omega) j]
theorem swr_pc {n : Nat} (hn : n < 65536) : swr n = pc n := by
  have en : n = 256 * (n / 256) + n % 256 := by omega
  have hh : n / 256 < 256 := by omega
  have hl : n % 256 < 256 := by omega
  obtain ⟨_, _, _, h4, h5, h6, h7, h8, _⟩ := f_a _ hh
  obtain ⟨_, _, _, l4, l5, l6, l7, l8, _⟩ := f_a _ hl
  have e3 : sw3 (sw2 (sw1 n)) = 256 * f3 (f2 (f1 (n / 256))) + f3 (f2 (f1 (n % 256))) := by
    rw [congrArg sw1 en, sw1_s hh hl, sw2_s h4 l4, sw3_s h5 l5 h6]
  have e5 : swr n = f3 (f2 (f1 (n / 256))) + f3 (f2 (f1 (n % 256))) := by
    unfold swr sw5 sw4
    rw [e3, show (63 : Nat) = 2 ^ 6 - 1 from rfl, Nat.and_two_pow_sub_one_eq_mod]
    have key : ∀ u v : Nat, u ≤ 8 → v ≤ 8 → (256 * u + v + (256 * u + v) / 2 ^ 8 + (256 * u + v + (256 * u + v) / 2 ^ 8) / 2 ^ 16) % 2 ^ 6 = u + v := by
      intro u v hu hv
      clear e3
      have a1 : (256 * u + v) / 2 ^ 8 = u := by omega
      rw [a1]
      have a2 : (256 * u + v + u) / 2 ^ 16 = 0 := Nat.div_eq_of_lt (by omega)
      rw [a2]
      omega
    exact key _ _ h8 l8
  have e6 : pc n = pcn 8 (n % 256) + pcn 24 (n / 256) := by
    have := pcn_sp 8 (n / 256) (n % 256) hl 24
    rw [show 2 ^ 8 * (n / 256) + n % 256 = n by omega] at this
    exact this
  rw [e5, e6, h7, l7, show (24 : Nat) = 8 + 16 from rfl, pcn_le 8 _ hh 16]
  omega
theorem sw_lt (n : Nat) (h : n < 2 ^ 32) : sw1 n < 2 ^ 32 ∧ sw2 (sw1 n) < 2 ^ 32 ∧ sw3 (sw2 (sw1 n)) < 2 ^ 32 ∧ sw4 (sw3 (sw2 (sw1 n))) < 2 ^ 32 ∧ sw5 (sw4 (sw3 (sw2 (sw1 n)))) < 2 ^ 32 ∧ sw2 (sw1 n) + sw2 (sw1 n) / 2 ^ 4 < 2 ^ 32 := by
  have h1 : sw1 n < 2 ^ 32 := Nat.lt_of_le_of_lt (Nat.sub_le _ _) h
  have a2 : sw1 n &&& 858993459 ≤ 858993459 := Nat.and_le_right
  have b2 : sw1 n / 2 ^ 2 &&& 858993459 ≤ 858993459 := Nat.and_le_right
  have a3 : sw3 (sw2 (sw1 n)) ≤ 252645135 := Nat.and_le_right
  have e2 : sw2 (sw1 n) = (sw1 n &&& 858993459) + (sw1 n / 2 ^ 2 &&& 858993459) := rfl
  have e4 : sw4 (sw3 (sw2 (sw1 n))) = sw3 (sw2 (sw1 n)) + sw3 (sw2 (sw1 n)) / 2 ^ 8 := rfl
  have e5 : sw5 (sw4 (sw3 (sw2 (sw1 n)))) = sw4 (sw3 (sw2 (sw1 n))) + sw4 (sw3 (sw2 (sw1 n))) / 2 ^ 16 := rfl
  omega
set_option maxRecDepth 100000 in
theorem ct_bitc (d n : Nat) (h : n < 2 ^ 32) (M : mm_M) : am_M (d + 1) false nm_J6_bitCount_0f7a4 [aI (nI n)] M (am_q1 (aI (nI (swr n))) M) := by
  obtain ⟨h1, h2, h3, h4, h5, h6⟩ := sw_lt n h
  refine ⟨rfl, rfl, rfl, fun X hX => am_run hX 60 _ _ _ _ ?_⟩
  conv => whnf
  refine ⟨trivial, ?_, rfl⟩
  have e1 : nI n - (((nI n).toUInt32 >>> ((nI 1).toUInt32 &&& Int32.toUInt32 31)).toInt32 &&& nI 1431655765) = nI (sw1 n) := by
    rw [nI_us h 1 (by decide), nI_and, nI_sub (Nat.le_trans Nat.and_le_left (Nat.div_le_self _ _))]
    rfl
  have e2 : (nI (sw1 n) &&& nI 858993459) + (((nI (sw1 n)).toUInt32 >>> ((nI 2).toUInt32 &&& Int32.toUInt32 31)).toInt32 &&& nI 858993459) = nI (sw2 (sw1 n)) := by
    rw [nI_us h1 2 (by decide), nI_and, nI_and, nI_add]
    rfl
  have e3 : (nI (sw2 (sw1 n)) + ((nI (sw2 (sw1 n))).toUInt32 >>> ((nI 4).toUInt32 &&& Int32.toUInt32 31)).toInt32) &&& nI 252645135 = nI (sw3 (sw2 (sw1 n))) := by
    rw [nI_us h2 4 (by decide), nI_add, nI_and]
    rfl
  have e4 : nI (sw3 (sw2 (sw1 n))) + ((nI (sw3 (sw2 (sw1 n)))).toUInt32 >>> ((nI 8).toUInt32 &&& Int32.toUInt32 31)).toInt32 = nI (sw4 (sw3 (sw2 (sw1 n)))) := by
    rw [nI_us h3 8 (by decide), nI_add]
    rfl
  have e5 : (nI (sw4 (sw3 (sw2 (sw1 n)))) + ((nI (sw4 (sw3 (sw2 (sw1 n))))).toUInt32 >>> ((nI 16).toUInt32 &&& Int32.toUInt32 31)).toInt32) &&& nI 63 = nI (swr n) := by
    rw [nI_us h4 16 (by decide), nI_add, nI_and]
    rfl
  rw [← e5, ← e4, ← e3, ← e2, ← e1]
  rfl
theorem ct_bit16 (d n : Nat) (h : n < 65536) (M : mm_M) : am_M (d + 1) false nm_J6_bitCount_0f7a4 [aI (nI n)] M (am_q1 (aI (nI (pc n))) M) := by
  rw [← swr_pc h]
  exact ct_bitc d n (by omega) M
/-- of 20 bits, as the reference counts -/
def ctl (v : Int32) : Nat → Int32 → Int32 → Int32
  | 0, _, a => a
  | n + 1, k, a => ctl v n (k + 1) (a + ((v >>> (k &&& 31)) &&& 1))
set_option maxRecDepth 100000 in
theorem ct_count0 (d : Nat) (v : Int32) (M : mm_M) : am_M (d + 1) false nm_X12_count [aI v] M (am_q1 (aI (ctl v 20 0 0)) M) := by
  refine ⟨rfl, rfl, rfl, fun X hX => am_run hX 2000 _ _ _ _ ?_⟩
  rw [show am_s0 (xp_row nm_X12_count).2.2.1 [aI v] = [some (aI v), none, none] from rfl]
  repeat (conv => whnf
          first
          | refine ⟨fun c => absurd c (by decide), fun _ => ?_⟩
          | refine ⟨fun _ => ?_, fun c => absurd (by decide) c⟩
          try simp only [am_s1, am_kil])
  conv => whnf
  exact ⟨trivial, rfl, rfl⟩
theorem ctl_pc {v : Nat} (h : v < 2 ^ 31) : ∀ (n k a : Nat), k + n ≤ 20 → ctl (nI v) n (nI k) (nI a) = nI (a + pcn n (v / 2 ^ k))
  | 0, k, a, _ => by simp [ctl, pcn]
  | n + 1, k, a, hk => by
    show ctl (nI v) n (nI k + 1) (nI a + ((nI v >>> (nI k &&& 31)) &&& 1)) = _
    rw [nI_sh h k (by omega), nI_m1, nI_add, nI_1, ctl_pc h n (k + 1) _ (by omega)]
    congr 1
    simp only [pcn]
    rw [Nat.pow_succ, ← Nat.div_div_eq_div_mul]
    omega
theorem ct_count (d n : Nat) (h : n < 2 ^ 20) (M : mm_M) : am_M (d + 1) false nm_X12_count [aI (nI n)] M (am_q1 (aI (nI (pc n))) M) := by
  have := ct_count0 d (nI n) M
  have e := ctl_pc (v := n) (by omega) 20 0 0 (by omega)
  rw [Nat.zero_add, Nat.pow_zero, Nat.div_one, ← pcn_le 20 n h 12] at e
  rw [show (0 : Int32) = nI 0 from rfl, e] at this
  exact this
