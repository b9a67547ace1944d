/-! STRING CONSTANTS: charAt and indexOf, by the JDK's own code -/
section SRT
variable {ac : Nat → ClassId} {lo : Nat} {ad sa : Nat → Nat} {sc : Nat × Nat × (Nat → Int32)}
abbrev sr_Q : Type := String × Nat × String × Nat × Nat × List Int32
theorem sr_in {j : Int32} {n : Nat} (h : vp_in j n) : j.toNatClampNeg < n := by
  apply Decidable.byContradiction
  intro hc
  exact h (Or.inr (by omega))
theorem sr_in0 {j : Int32} {n : Nat} (h : vp_in j n) : ¬ j < 0 := fun z => h (Or.inl z)
theorem sr_in1 {j : Int32} {n : Nat} (h : vp_in j n) (hn : n < 2 ^ 31) : j < Int32.ofNat n := by
  obtain ⟨i, hi, rfl⟩ := nI_of (sr_in0 h)
  have h2 := sr_in h
  rw [nI_clamp hi] at h2
  exact nI_lt h2 hn
set_option maxRecDepth 100000 in
theorem sr_lat {k : Nat} {q : sr_Q} (hq : (xp_li ad)[k]? = some q) (d : Nat) (h : xm_H) : xm_M xp ac lo xp_fty xp_dfl (xp_sv ad sa sc) (d + 1) 6 [.ref q.2.2.2.1] h 0 0 (xq1 (.int 1) h) := by
  refine ⟨rfl, Nat.le_of_ble_eq_true rfl, Nat.le_of_ble_eq_true rfl, fun X hX => xm_run hX 20 _ _ _ _ _ _ ?_⟩
  conv => whnf
  refine ⟨fun h => absurd h (by decide), fun _ => ?_⟩
  conv => whnf
  refine ⟨k, q, hq, rfl, ?_⟩
  conv => whnf
  refine ⟨fun h => absurd rfl h, fun _ => ?_⟩
  conv => whnf
  exact ⟨⟨.boolean, rfl, rfl⟩, rfl, rfl⟩
set_option maxRecDepth 100000 in
theorem sr_cod {k : Nat} {q : sr_Q} (hq : (xp_li ad)[k]? = some q) (d : Nat) (h : xm_H) : xm_M xp ac lo xp_fty xp_dfl (xp_sv ad sa sc) (d + 1) 3 [.ref q.2.2.2.1] h 0 0 (xq1 (.int 0) h) := by
  refine ⟨rfl, Nat.le_of_ble_eq_true rfl, Nat.le_of_ble_eq_true rfl, fun X hX => xm_run hX 20 _ _ _ _ _ _ ?_⟩
  conv => whnf
  refine ⟨fun h => absurd h (by decide), fun _ => ?_⟩
  conv => whnf
  refine ⟨k, q, hq, rfl, ?_⟩
  conv => whnf
  exact ⟨⟨.byte, rfl, rfl⟩, rfl, rfl⟩
set_option maxRecDepth 100000 in
theorem sr_len {k : Nat} {q : sr_Q} (hq : (xp_li ad)[k]? = some q) (d : Nat) (h : xm_H) : xm_M xp ac lo xp_fty xp_dfl (xp_sv ad sa sc) (d + 2) 7 [.ref q.2.2.2.1] h 0 0 (xq1 (.int (Int32.ofNat q.2.2.2.2.2.length >>> ((0 : Int32) &&& 31))) h) := by
  refine ⟨rfl, Nat.le_of_ble_eq_true rfl, Nat.le_of_ble_eq_true rfl, fun X hX => xm_run hX 20 _ _ _ _ _ _ ?_⟩
  conv => whnf
  refine ⟨k, q, hq, rfl, ?_⟩
  conv => whnf
  refine ⟨k, q, hq, rfl, ?_⟩
  conv => whnf
  refine ⟨⟨k, q, hq, rfl⟩, xw1 0 0 (Nat.le_of_ble_eq_true rfl) (Nat.le_refl _) (Nat.le_refl _) (sr_cod hq d h) ?_⟩
  conv => whnf
  exact ⟨⟨.int, rfl, rfl⟩, rfl, rfl⟩
set_option maxRecDepth 100000 in
theorem sr_ck3 {j n : Int32} (h0 : ¬ j < 0) (h1 : j < n) (v : Value) (hv : v = .null ∨ ∃ a, v = .ref a) (d : Nat) (h : xm_H) : xm_M xp ac lo xp_fty xp_dfl (xp_sv ad sa sc) (d + 1) 26 [.int j, .int n, v] h 0 0 (xq1 (.int j) h) := by
  rcases hv with rfl | ⟨a, rfl⟩
  all_goals
    refine ⟨rfl, Nat.le_of_ble_eq_true rfl, Nat.le_of_ble_eq_true rfl, fun X hX => xm_run hX 20 _ _ _ _ _ _ ?_⟩
    conv => whnf
    refine ⟨fun h => absurd h h0, fun _ => ?_⟩
    conv => whnf
    refine ⟨fun _ => ?_, fun h => absurd h1 h⟩
    conv => whnf
    exact ⟨⟨.int, rfl, rfl⟩, rfl, rfl⟩
set_option maxRecDepth 100000 in
theorem sr_ck {j n : Int32} (h0 : ¬ j < 0) (h1 : j < n) (d : Nat) (h : xm_H) : xm_M xp ac lo xp_fty xp_dfl (xp_sv ad sa sc) (d + 2) 2 [.int j, .int n] h 0 0 (xq0 h) := by
  refine ⟨rfl, Nat.le_of_ble_eq_true rfl, Nat.le_of_ble_eq_true rfl, fun X hX => xm_run hX 20 _ _ _ _ _ _ ?_⟩
  conv => whnf
  refine ⟨Nat.le_of_ble_eq_true rfl, xw1 0 0 (Nat.le_of_ble_eq_true rfl) (Nat.le_refl _) (Nat.le_refl _) (sr_ck3 h0 h1 _ ?_ d h) ?_⟩
  · by_cases hz : ad 15 = 0
    · exact Or.inl (if_pos hz)
    · exact Or.inr ⟨_, if_neg hz⟩
  conv => whnf
  exact ⟨rfl, rfl, ⟨rfl, rfl⟩⟩
set_option maxRecDepth 100000 in
theorem sr_c1 {k : Nat} {q : sr_Q} (hq : (xp_li ad)[k]? = some q) {j : Int32} (h0 : ¬ j < 0) (h1 : j < Int32.ofNat q.2.2.2.2.2.length) (hj : vp_in j q.2.2.2.2.2.length) (hn : narrow .char (.int (((q.2.2.2.2.2.getD j.toNatClampNeg 0 &&& 255).toUInt32 % 65536).toInt32)) = .int (((q.2.2.2.2.2.getD j.toNatClampNeg 0 &&& 255).toUInt32 % 65536).toInt32)) (d : Nat) (h : xm_H) : xm_M xp ac lo xp_fty xp_dfl (xp_sv ad sa sc) (d + 3) 9 [.ref q.2.2.2.2.1, .int j] h 0 0 (xq1 (.int (((q.2.2.2.2.2.getD j.toNatClampNeg 0 &&& 255).toUInt32 % 65536).toInt32)) h) := by
  refine ⟨rfl, Nat.le_of_ble_eq_true rfl, Nat.le_of_ble_eq_true rfl, fun X hX => xm_run hX 20 _ _ _ _ _ _ ?_⟩
  conv => whnf
  refine ⟨k, q, hq, rfl, ?_⟩
  conv => whnf
  refine ⟨Nat.le_of_ble_eq_true rfl, xw0 0 0 (Nat.le_of_ble_eq_true rfl) (Nat.le_refl _) (Nat.le_refl _) (sr_ck h0 h1 d h) ?_⟩
  conv => whnf
  refine ⟨k, q, hq, rfl, hj, ?_⟩
  conv => whnf
  exact ⟨⟨.char, rfl, hn⟩, rfl, rfl⟩
set_option maxRecDepth 100000 in
theorem sr_chr {k : Nat} {q : sr_Q} (hq : (xp_li ad)[k]? = some q) {j : Int32} (h0 : ¬ j < 0) (h1 : j < Int32.ofNat q.2.2.2.2.2.length) (hj : vp_in j q.2.2.2.2.2.length) (hn : narrow .char (.int (((q.2.2.2.2.2.getD j.toNatClampNeg 0 &&& 255).toUInt32 % 65536).toInt32)) = .int (((q.2.2.2.2.2.getD j.toNatClampNeg 0 &&& 255).toUInt32 % 65536).toInt32)) (d : Nat) (h : xm_H) : xm_M xp ac lo xp_fty xp_dfl (xp_sv ad sa sc) (d + 4) 0 [.ref q.2.2.2.1, .int j] h 0 0 (xq1 (.int (((q.2.2.2.2.2.getD j.toNatClampNeg 0 &&& 255).toUInt32 % 65536).toInt32)) h) := by
  refine ⟨rfl, Nat.le_of_ble_eq_true rfl, Nat.le_of_ble_eq_true rfl, fun X hX => xm_run hX 20 _ _ _ _ _ _ ?_⟩
  conv => whnf
  refine ⟨⟨k, q, hq, rfl⟩, xw1 0 0 (Nat.le_of_ble_eq_true rfl) (Nat.le_refl _) (Nat.le_refl _) (sr_lat hq (d + 2) h) ?_⟩
  conv => whnf
  refine ⟨fun h => absurd h (by decide), fun _ => ?_⟩
  conv => whnf
  refine ⟨k, q, hq, rfl, ?_⟩
  conv => whnf
  refine ⟨Nat.le_of_ble_eq_true rfl, xw1 0 0 (Nat.le_of_ble_eq_true rfl) (Nat.le_refl _) (Nat.le_refl _) (sr_c1 hq h0 h1 hj hn d h) ?_⟩
  conv => whnf
  exact ⟨⟨.char, rfl, hn⟩, rfl, rfl⟩
set_option maxRecDepth 100000 in
theorem sr_can (c : Int32) (d : Nat) (h : xm_H) : xm_M xp ac lo xp_fty xp_dfl (xp_sv ad sa sc) (d + 1) 8 [.int c] h 0 0 (xq1 (.int (if c < 0 ∨ 255 < c then 0 else 1)) h) := by
  refine ⟨rfl, Nat.le_of_ble_eq_true rfl, Nat.le_of_ble_eq_true rfl, fun X hX => xm_run hX 20 _ _ _ _ _ _ ?_⟩
  conv => whnf
  refine ⟨fun h0 => ?_, fun h0 => ?_⟩
  · conv => whnf
    refine ⟨⟨.boolean, rfl, rfl⟩, ?_, rfl⟩
    rw [if_pos (Or.inl h0)]
  conv => whnf
  refine ⟨fun h1 => ?_, fun h1 => ?_⟩
  · conv => whnf
    refine ⟨⟨.boolean, rfl, rfl⟩, ?_, rfl⟩
    rw [if_pos (Or.inr h1)]
  · conv => whnf
    refine ⟨⟨.boolean, rfl, rfl⟩, ?_, rfl⟩
    rw [if_neg (fun z => z.elim h0 h1)]
set_option maxRecDepth 100000 in
theorem sr_lp {k : Nat} {q : sr_Q} (hq : (xp_li ad)[k]? = some q) (hl : q.2.2.2.2.2.length < 2 ^ 31) {c c8 f0 v : Int32} {d : Nat} {h : xm_H} {cs : xm_S} {X : xm_X}
    (hX : ∀ pc L st h' rc rs, xm_G ac lo xp_fty xp_dfl xp.2.2.2.2.2.2.1 (xp_sv ad sa sc) d (xp.2.2.2.2.2.2.2 10) cs (xp.2.2.2.2.1 10) (xp.2.2.2.1 10) (xq1 (.int v) h) X pc L st h' rc rs → X pc L st h' rc rs) :
    ∀ (l : List Int32) (i : Nat), q.2.2.2.2.2.drop i = l → i ≤ q.2.2.2.2.2.length → am_ixF c8 l i = v → X 7 [some (.ref q.2.2.2.2.1), some (.int c), some (.int f0), some (.int (nI q.2.2.2.2.2.length)), some (.int c8), some (.int (nI i))] [] h 0 0 := by
  intro l
  induction l with
  | nil =>
    intro i e hi hv
    have e2 : q.2.2.2.2.2.length ≤ i := List.drop_eq_nil_iff.mp e
    refine xm_run hX 5 _ _ _ _ _ _ ?_
    conv => whnf
    refine ⟨fun _ => ?_, fun z => absurd (nI_le e2 (by omega)) z⟩
    conv => whnf
    exact ⟨⟨.int, rfl, rfl⟩, by rw [← hv]; rfl, rfl⟩
  | cons b l ih =>
    intro i e hi hv
    have hlt : i < q.2.2.2.2.2.length := by
      rcases Nat.lt_or_ge i q.2.2.2.2.2.length with z | z
      · exact z
      · rw [List.drop_eq_nil_of_le z] at e; cases e
    have eb : q.2.2.2.2.2.getD i 0 = b := by
      rw [List.getD_eq_getElem?_getD, ← List.head?_drop, e]; rfl
    have el : q.2.2.2.2.2.drop (i + 1) = l := by
      rw [← List.tail_drop, e]; rfl
    refine xm_run hX 8 _ _ _ _ _ _ ?_
    conv => whnf
    refine ⟨fun z => absurd z (nI_ge hlt hl), fun _ => ?_⟩
    conv => whnf
    refine ⟨k, q, hq, rfl, vp_in_nI hlt hl, ?_⟩
    rw [nI_clamp (by omega), eb]
    conv => whnf
    refine ⟨fun hc => ?_, fun hc => ?_⟩
    · refine xm_run hX 2 _ _ _ _ _ _ ?_
      conv => whnf
      refine ⟨Nat.le_of_ble_eq_true rfl, ?_⟩
      conv => whnf
      have ei : nI i + 1 = nI (i + 1) := (nI_succ i).symm
      show X 7 [some (.ref q.2.2.2.2.1), some (.int c), some (.int f0), some (.int (nI q.2.2.2.2.2.length)), some (.int c8), some (.int (nI i + 1))] [] h 0 0
      rw [ei]
      refine ih (i + 1) el hlt ?_
      rw [am_ixF, if_neg hc] at hv
      exact hv
    · refine xm_run hX 2 _ _ _ _ _ _ ?_
      conv => whnf
      refine ⟨⟨.int, rfl, rfl⟩, ?_, rfl⟩
      rw [am_ixF, if_pos (Classical.not_not.mp hc)] at hv
      rw [← hv]
set_option maxRecDepth 100000 in
theorem sr_ixc {k : Nat} {q : sr_Q} (hq : (xp_li ad)[k]? = some q) (hl : q.2.2.2.2.2.length < 2 ^ 31) (c : Int32) (d : Nat) (h : xm_H) : xm_M xp ac lo xp_fty xp_dfl (xp_sv ad sa sc) (d + 1) 10 [.ref q.2.2.2.2.1, .int c, .int 0, .int (nI q.2.2.2.2.2.length)] h 0 0 (xq1 (.int (am_ixF c.toInt8.toInt32 q.2.2.2.2.2 0)) h) := by
  refine ⟨rfl, Nat.le_of_ble_eq_true rfl, Nat.le_of_ble_eq_true rfl, fun X hX => xm_run hX 5 _ _ _ _ _ _ ?_⟩
  conv => whnf
  refine ⟨Nat.le_of_ble_eq_true rfl, ?_⟩
  conv => whnf
  refine ⟨Nat.le_of_ble_eq_true rfl, ?_⟩
  conv => whnf
  exact sr_lp (c := c) (c8 := c.toInt8.toInt32) (f0 := 0) hq hl hX _ 0 rfl (Nat.zero_le _) rfl
set_option maxRecDepth 100000 in
theorem sr_ix1 {k : Nat} {q : sr_Q} (hq : (xp_li ad)[k]? = some q) (hl : q.2.2.2.2.2.length < 2 ^ 31) (hl0 : 0 < q.2.2.2.2.2.length) (c : Int32) (d : Nat) (h : xm_H) : xm_M xp ac lo xp_fty xp_dfl (xp_sv ad sa sc) (d + 2) 11 [.ref q.2.2.2.2.1, .int c, .int 0, .int (nI q.2.2.2.2.2.length)] h 0 0 (xq1 (.int (if c < 0 ∨ 255 < c then -1 else am_ixF c.toInt8.toInt32 q.2.2.2.2.2 0)) h) := by
  refine ⟨rfl, Nat.le_of_ble_eq_true rfl, Nat.le_of_ble_eq_true rfl, fun X hX => xm_run hX 40 _ _ _ _ _ _ ?_⟩
  conv => whnf
  refine ⟨Nat.le_of_ble_eq_true rfl, xw1 0 0 (Nat.le_of_ble_eq_true rfl) (Nat.le_refl _) (Nat.le_refl _) (sr_can c d h) ?_⟩
  conv => whnf
  by_cases hc : c < 0 ∨ 255 < c
  · rw [if_pos hc]
    refine ⟨fun h => absurd rfl h, fun _ => ?_⟩
    conv => whnf
    refine ⟨⟨.int, rfl, rfl⟩, ?_, rfl⟩
    rw [if_pos hc]
  rw [if_neg hc]
  refine ⟨fun _ => ?_, fun h => absurd (by decide) h⟩
  conv => whnf
  refine ⟨Nat.le_of_ble_eq_true rfl, ?_⟩
  conv => whnf
  refine ⟨Nat.le_of_ble_eq_true rfl, ?_⟩
  conv => whnf
  refine ⟨k, q, hq, rfl, ?_⟩
  conv => whnf
  refine ⟨Nat.le_of_ble_eq_true rfl, ?_⟩
  conv => whnf
  refine ⟨Nat.le_of_ble_eq_true rfl, ?_⟩
  conv => whnf
  have e0 : (if (0 : Int32) < 0 then (0 : Int32) else 0) = 0 := by decide
  have e1 : (if nI q.2.2.2.2.2.length < nI q.2.2.2.2.2.length then nI q.2.2.2.2.2.length else nI q.2.2.2.2.2.length) = nI q.2.2.2.2.2.length := ite_self _
  refine ⟨fun _ => ?_, fun z => absurd (show (if (0 : Int32) < 0 then (0 : Int32) else 0) < (if nI q.2.2.2.2.2.length < nI q.2.2.2.2.2.length then nI q.2.2.2.2.2.length else nI q.2.2.2.2.2.length) by rw [e0, e1]; exact nI_lt (a := 0) hl0 hl) z⟩
  conv => whnf
  refine ⟨Nat.le_of_ble_eq_true rfl, ?_⟩
  have hc9 := sr_ixc (ac := ac) (lo := lo) (sa := sa) (sc := sc) hq hl c d h
  rw [← e0, ← e1] at hc9
  refine xw1 0 0 (Nat.le_of_ble_eq_true rfl) (Nat.le_refl _) (Nat.le_refl _) hc9 ?_
  conv => whnf
  refine ⟨⟨.int, rfl, rfl⟩, ?_, rfl⟩
  rw [if_neg hc]
set_option maxRecDepth 100000 in
theorem sr_ix2 {k : Nat} {q : sr_Q} (hq : (xp_li ad)[k]? = some q) (hl : q.2.2.2.2.2.length < 2 ^ 31) (hl0 : 0 < q.2.2.2.2.2.length) (hs : Int32.ofNat q.2.2.2.2.2.length >>> ((0 : Int32) &&& 31) = nI q.2.2.2.2.2.length) (c : Int32) (d : Nat) (h : xm_H) : xm_M xp ac lo xp_fty xp_dfl (xp_sv ad sa sc) (d + 3) 5 [.ref q.2.2.2.1, .int c, .int 0] h 0 0 (xq1 (.int (if c < 0 ∨ 255 < c then -1 else am_ixF c.toInt8.toInt32 q.2.2.2.2.2 0)) h) := by
  refine ⟨rfl, Nat.le_of_ble_eq_true rfl, Nat.le_of_ble_eq_true rfl, fun X hX => xm_run hX 40 _ _ _ _ _ _ ?_⟩
  conv => whnf
  refine ⟨⟨k, q, hq, rfl⟩, xw1 0 0 (Nat.le_of_ble_eq_true rfl) (Nat.le_refl _) (Nat.le_refl _) (sr_lat hq (d + 1) h) ?_⟩
  conv => whnf
  refine ⟨fun h => absurd h (by decide), fun _ => ?_⟩
  conv => whnf
  refine ⟨k, q, hq, rfl, ?_⟩
  conv => whnf
  have hln := sr_len (ac := ac) (lo := lo) (sa := sa) (sc := sc) hq d h
  rw [hs] at hln
  refine ⟨⟨k, q, hq, rfl⟩, xw1 0 0 (Nat.le_of_ble_eq_true rfl) (Nat.le_refl _) (Nat.le_refl _) hln ?_⟩
  conv => whnf
  refine ⟨Nat.le_of_ble_eq_true rfl, xw1 0 0 (Nat.le_of_ble_eq_true rfl) (Nat.le_refl _) (Nat.le_refl _) (sr_ix1 hq hl hl0 c d h) ?_⟩
  conv => whnf
  exact ⟨⟨.int, rfl, rfl⟩, rfl, rfl⟩
set_option maxRecDepth 100000 in
theorem sr_ix {k : Nat} {q : sr_Q} (hq : (xp_li ad)[k]? = some q) (hl : q.2.2.2.2.2.length < 2 ^ 31) (hl0 : 0 < q.2.2.2.2.2.length) (hs : Int32.ofNat q.2.2.2.2.2.length >>> ((0 : Int32) &&& 31) = nI q.2.2.2.2.2.length) (c : Int32) (d : Nat) (h : xm_H) : xm_M xp ac lo xp_fty xp_dfl (xp_sv ad sa sc) (d + 4) 4 [.ref q.2.2.2.1, .int c] h 0 0 (xq1 (.int (if c < 0 ∨ 255 < c then -1 else am_ixF c.toInt8.toInt32 q.2.2.2.2.2 0)) h) := by
  refine ⟨rfl, Nat.le_of_ble_eq_true rfl, Nat.le_of_ble_eq_true rfl, fun X hX => xm_run hX 40 _ _ _ _ _ _ ?_⟩
  conv => whnf
  refine ⟨⟨k, q, hq, rfl⟩, xw1 0 0 (Nat.le_of_ble_eq_true rfl) (Nat.le_refl _) (Nat.le_refl _) (sr_ix2 hq hl hl0 hs c d h) ?_⟩
  conv => whnf
  exact ⟨⟨.int, rfl, rfl⟩, rfl, rfl⟩
/-- what the bytes of a constant must be -/
def sr_by (bs : List Int32) : Bool := Nat.blt 0 bs.length && (Nat.blt bs.length 100 && (bs.all fun b => (List.range 256).all fun n => decide (b = (nI n).toInt8.toInt32) == decide (b = nI n)) && (bs.all fun b => decide (¬ b < 0) && decide (¬ 255 < b)) && (bs.all fun b => decide (((b &&& 255).toUInt32 % 65536).toInt32 = b) && decide (narrow .char (.int b) = .int b)) && decide (Int32.ofNat bs.length >>> ((0 : Int32) &&& 31) = nI bs.length))
theorem sr_ixe {c : Int32} : ∀ {l : List Int32} (k : Nat), (∀ b ∈ l, (b = c.toInt8.toInt32 ↔ b = c)) → am_ixF c.toInt8.toInt32 l k = am_ixF c l k
  | [], _, _ => rfl
  | b :: l, k, h => by
    have h1 := h b List.mem_cons_self
    have h2 := sr_ixe (l := l) (k + 1) (fun b' hb' => h b' (List.mem_cons_of_mem _ hb'))
    unfold am_ixF
    by_cases hc : b = c
    · rw [if_pos hc, if_pos (h1.mpr hc)]
    · rw [if_neg hc, if_neg (fun e => hc (h1.mp e)), h2]
theorem sr_ixo {c : Int32} : ∀ {l : List Int32} (k : Nat), (∀ b ∈ l, ¬ b = c) → am_ixF c l k = -1
  | [], _, _ => rfl
  | b :: l, k, h => by
    unfold am_ixF
    rw [if_neg (h b List.mem_cons_self)]
    exact sr_ixo (k + 1) (fun b' hb' => h b' (List.mem_cons_of_mem _ hb'))
theorem sr_one {k : Nat} {q : sr_Q} (hq : (xp_li ad)[k]? = some q) (hb : sr_by q.2.2.2.2.2 = true) (d : Nat) (j : Int32) (h : xm_H) :
    (vp_in j q.2.2.2.2.2.length → xm_M xp ac lo xp_fty xp_dfl (xp_sv ad sa sc) (d + 4) 0 [.ref q.2.2.2.1, .int j] h 0 0 (xq1 (.int (am_chr q.2.2.2.2.2 j)) h)) ∧ xm_M xp ac lo xp_fty xp_dfl (xp_sv ad sa sc) (d + 4) 4 [.ref q.2.2.2.1, .int j] h 0 0 (xq1 (.int (am_ixF j q.2.2.2.2.2 0)) h) := by
  simp only [sr_by, Bool.and_eq_true, decide_eq_true_eq, List.all_eq_true, beq_iff_eq, decide_eq_decide, List.mem_range] at hb
  obtain ⟨h0, ⟨⟨⟨h1, h2⟩, h3⟩, h4⟩, h5⟩ := hb
  have h0 := Nat.le_of_ble_eq_true h0
  have h1 := Nat.le_of_ble_eq_true h1
  refine ⟨fun hj => ?_, ?_⟩
  · have hm : q.2.2.2.2.2.getD j.toNatClampNeg 0 ∈ q.2.2.2.2.2 := by
      have := sr_in hj
      rw [List.getD_eq_getElem?_getD, List.getElem?_eq_getElem this]
      exact List.getElem_mem _
    obtain ⟨e1, e2⟩ := h4 _ hm
    have h9 := sr_chr (ac := ac) (lo := lo) (sa := sa) (sc := sc) hq (sr_in0 hj) (sr_in1 hj (by omega)) hj (by rw [e1]; exact e2) d h
    rw [e1] at h9
    exact h9
  · have h9 := sr_ix (ac := ac) (lo := lo) (sa := sa) (sc := sc) hq (by omega) (by omega) h5 j d h
    have e9 : (if j < 0 ∨ 255 < j then (-1 : Int32) else am_ixF j.toInt8.toInt32 q.2.2.2.2.2 0) = am_ixF j q.2.2.2.2.2 0 := by
      by_cases hc : j < 0 ∨ 255 < j
      · rw [if_pos hc, sr_ixo 0 (fun b hb e => ?_)]
        subst e
        exact hc.elim (h3 b hb).1 (h3 b hb).2
      · rw [if_neg hc]
        obtain ⟨n, hn, rfl⟩ := nI_of (fun z => hc (Or.inl z))
        have hn2 : n < 256 := by
          rcases Nat.lt_or_ge n 256 with z | z
          · exact z
          · exact absurd (Or.inr (nI_lt (a := 255) (b := n) (by omega) hn)) hc
        exact sr_ixe 0 (fun b hb => h2 b hb n hn2)
    rw [e9] at h9
    exact h9
theorem sr_use {d a : Nat} {bs : List Int32} (h4 : 4 ≤ d) (hl : am_lit a = some bs) : (∃ (k : Nat) (q : sr_Q), (xp_li ad)[k]? = some q ∧ q.2.2.2.1 = ad (a - 1000)) ∧ ∀ (j : Int32) (h : xm_H), (vp_in j bs.length → xm_M xp ac lo xp_fty xp_dfl (xp_sv ad sa sc) d 0 [.ref (ad (a - 1000)), .int j] h 0 0 (xq1 (.int (am_chr bs j)) h)) ∧ xm_M xp ac lo xp_fty xp_dfl (xp_sv ad sa sc) d 4 [.ref (ad (a - 1000)), .int j] h 0 0 (xq1 (.int (am_ixF j bs 0)) h) := by
  obtain ⟨d, rfl⟩ : ∃ e, d = e + 4 := ⟨d - 4, by omega⟩
  unfold am_lit at hl
  split at hl
  · cases hl; exact ⟨⟨0, _, rfl, rfl⟩, sr_one (ad := ad) (k := 0) rfl (show sr_by xp_l0 = true by decide +kernel) d⟩
  · cases hl; exact ⟨⟨1, _, rfl, rfl⟩, sr_one (ad := ad) (k := 1) rfl (show sr_by xp_l1 = true by decide +kernel) d⟩
  · cases hl; exact ⟨⟨2, _, rfl, rfl⟩, sr_one (ad := ad) (k := 2) rfl (show sr_by xp_l2 = true by decide +kernel) d⟩
  · cases hl; exact ⟨⟨3, _, rfl, rfl⟩, sr_one (ad := ad) (k := 3) rfl (show sr_by xp_l3 = true by decide +kernel) d⟩
  · cases hl
end SRT
