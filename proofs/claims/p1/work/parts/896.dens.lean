/-! the pair density: a DENSITY begins -/
section DNS
variable {d : Nat} {M : mm_M}
/-- one ROOT is 1, the others are 0 -/
def on105 (M : mm_M) (c a : Nat) : mm_M := mm_l (mm_i M 105 (upd (upd (M.1 105) 2 (nI c)) 3 0)) 107 (vp_updL (fun j => if j < 256 then 0 else M.2 107 j) (4 * a) 1)
set_option maxRecDepth 100000 in
theorem ct_one105 {c a : Nat} (ha : a < 64) : am_M (d + 2) false nm_X6_setOne [aR 105, aI (nI c), aI (nI a)] M (am_q0 (on105 M c a)) := by
  refine ⟨rfl, rfl, rfl, fun X hX => am_run hX 30 _ _ _ _ ?_⟩
  conv => whnf
  refine am_c0 (ct_fill107 (d := d)) ?_
  conv => whnf
  rw [show (4 : Int32) = nI 4 from rfl, nI_mul]
  refine ⟨vp_in_nI (by show _ < 256; omega) (by decide), ?_⟩
  conv => whnf
  rw [nI_clamp (by omega)]
  refine ⟨trivial, rfl, ?_⟩
  unfold on105
  rw [mm_l2, mm_ll, mm_i1, mm_ii]
  rfl
/-- one ROOT is 1, the others are 0 -/
def on18 (M : mm_M) (c a : Nat) : mm_M := mm_l (mm_i M 18 (upd (upd (M.1 18) 2 (nI c)) 3 0)) 20 (vp_updL (fun j => if j < 1024 then 0 else M.2 20 j) (4 * a) 1)
set_option maxRecDepth 100000 in
theorem ct_one18 {c a : Nat} (ha : a < 256) : am_M (d + 2) false nm_X6_setOne [aR 18, aI (nI c), aI (nI a)] M (am_q0 (on18 M c a)) := by
  refine ⟨rfl, rfl, rfl, fun X hX => am_run hX 30 _ _ _ _ ?_⟩
  conv => whnf
  refine am_c0 (ct_fill20 (d := d)) ?_
  conv => whnf
  rw [show (4 : Int32) = nI 4 from rfl, nI_mul]
  refine ⟨vp_in_nI (by show _ < 1024; omega) (by decide), ?_⟩
  conv => whnf
  rw [nI_clamp (by omega)]
  refine ⟨trivial, rfl, ?_⟩
  unfold on18
  rw [mm_l2, mm_ll, mm_i1, mm_ii]
  rfl
theorem or_s : ∀ w, w < 4 → ∀ s, s < 8 → s < 2 ^ w → s ||| s * 2 ^ w = s + 2 ^ w * s := by decide +kernel
def de_1 (M : mm_M) (w s : Nat) : mm_M := on105 (mm_i M 104 (upd (upd (upd (M.1 104) 1 (nI w)) 2 0) 3 0)) (2 ^ (2 * w)) (s + 2 ^ w * s)
def de_2 (M : mm_M) (w s : Nat) : mm_M := mm_l (mm_i M 108 (upd (upd (upd (upd (M.1 108) 0 0) 88 (nI w)) 89 0) 90 0)) 162 (vp_updL (fun j => if j < 320 then 0 else M.2 162 j) (5 * (8 * s + s)) 1)
set_option maxRecDepth 100000 in
theorem dn_x1 {w s : Nat} (w1 : 1 ≤ w) (w3 : w ≤ 3) (hs : s < 2 ^ w) : am_M (d + 4) false nm_X11_density [aR 0, aI (nI w), aI (nI s)] M (am_q1 (aI 1) (de_1 M w s)) := by
  have h8 := w8 w3
  have h64 := ij64 w3 hs hs
  refine ⟨rfl, rfl, rfl, fun X hX => am_run hX 60 _ _ _ _ ?_⟩
  conv => whnf
  refine ⟨fun c => absurd c (nI_nlt (b := 1) w1 (by omega)), fun _ => ?_⟩
  conv => whnf
  refine ⟨fun c => absurd c (nI_nlt (a := 3) w3 (by decide)), fun _ => ?_⟩
  conv => whnf
  refine ⟨fun c => absurd c (nI_pos (by omega)), fun _ => ?_⟩
  conv => whnf
  rw [sh2 w (by omega)]
  refine ⟨fun _ => ?_, fun c => absurd (nI_lt hs (by omega)) c⟩
  conv => whnf
  refine am_inl ⟨rfl, rfl, rfl, fun X hX => am_run hX 60 _ _ _ _ ?_⟩
  conv => whnf
  have h2 : s * 2 ^ w ≤ 8 * 8 := Nat.mul_le_mul (by omega) h8
  rw [show (2 : Int32) = nI 2 from rfl, nI_mul, sh2 (2 * w) (by omega), nI_shl (by omega) (by omega), nI_or, or_s w (by omega) s (by omega) hs]
  refine am_c0 (ct_one105 (d := d) (c := 2 ^ (2 * w)) (a := s + 2 ^ w * s) h64) ?_
  conv => whnf
  refine ⟨trivial, _, rfl, ?_⟩
  conv => whnf
  refine ⟨rfl, rfl, ?_⟩
  unfold de_1
  simp only [mm_i1, mm_ii]
def dn_no (p1 p2 : Int32) : Prop := (p1 < 1 ∨ 3 < p1) ∨ ∃ w, p1 = nI w ∧ 1 ≤ w ∧ w ≤ 3 ∧ (p2 < 0 ∨ nI (2 ^ w) ≤ p2)
theorem dn_sp (p1 p2 : Int32) : dn_no p1 p2 ∨ ∃ w s, p1 = nI w ∧ p2 = nI s ∧ 1 ≤ w ∧ w ≤ 3 ∧ s < 2 ^ w := by
  by_cases h1 : p1 < 1 ∨ 3 < p1
  · exact Or.inl (Or.inl h1)
  · have h0 : ¬ p1 < 0 := fun c => h1 (Or.inl (Int32.lt_trans c (by decide)))
    obtain ⟨w, hw, rfl⟩ := nI_of h0
    have a1 : 1 ≤ w := by
      apply Decidable.byContradiction
      intro hc
      exact h1 (Or.inl (nI_lt (b := 1) (by omega) (by decide)))
    have a3 : w ≤ 3 := by
      apply Decidable.byContradiction
      intro hc
      exact h1 (Or.inr (nI_lt (a := 3) (by omega) hw))
    by_cases h2 : p2 < 0 ∨ nI (2 ^ w) ≤ p2
    · exact Or.inl (Or.inr ⟨w, rfl, a1, a3, h2⟩)
    · have b0 : ¬ p2 < 0 := fun c => h2 (Or.inl c)
      obtain ⟨s, hs, rfl⟩ := nI_of b0
      refine Or.inr ⟨w, s, rfl, rfl, a1, a3, ?_⟩
      apply Decidable.byContradiction
      intro hc
      exact h2 (Or.inr (nI_le (by omega) hs))
set_option maxRecDepth 100000 in
theorem dn_x0 {p1 p2 : Int32} (h : dn_no p1 p2) : am_M (d + 1) false nm_X11_density [aR 0, aI p1, aI p2] M (am_q1 (aI 0) M) := by
  refine ⟨rfl, rfl, rfl, fun X hX => am_run hX 60 _ _ _ _ ?_⟩
  conv => whnf
  refine ⟨fun c1 => ?_, fun c1 => ?_⟩
  · conv => whnf
    exact ⟨rfl, rfl, rfl⟩
  · conv => whnf
    refine ⟨fun c2 => ?_, fun c2 => ?_⟩
    · conv => whnf
      exact ⟨rfl, rfl, rfl⟩
    · rcases h with h | ⟨w, rfl, w1, w3, h⟩
      · exact absurd h (by rintro (q | q); exact c1 q; exact c2 q)
      · conv => whnf
        refine ⟨fun c3 => ?_, fun c3 => ?_⟩
        · conv => whnf
          exact ⟨rfl, rfl, rfl⟩
        · conv => whnf
          rw [sh2 w (by omega)]
          refine ⟨fun c4 => absurd (h.resolve_left c3) (Int32.not_le.mpr c4), fun c4 => ?_⟩
          conv => whnf
          exact ⟨rfl, rfl, rfl⟩
set_option maxRecDepth 100000 in
theorem dn_m0 {p1 p2 : Int32} (h : dn_no p1 p2) : am_M (d + 1) false nm_X12_density [aR 108, aI p1, aI p2] M (am_q1 (aI 0) (th0 M)) := by
  refine ⟨rfl, rfl, rfl, fun X hX => am_run hX 60 _ _ _ _ ?_⟩
  conv => whnf
  refine ⟨fun c1 => ?_, fun c1 => ?_⟩
  · conv => whnf
    exact ⟨rfl, rfl, rfl⟩
  · conv => whnf
    refine ⟨fun c2 => ?_, fun c2 => ?_⟩
    · conv => whnf
      exact ⟨rfl, rfl, rfl⟩
    · rcases h with h | ⟨w, rfl, w1, w3, h⟩
      · exact absurd h (by rintro (q | q); exact c1 q; exact c2 q)
      · conv => whnf
        refine ⟨fun c3 => ?_, fun c3 => ?_⟩
        · conv => whnf
          exact ⟨rfl, rfl, rfl⟩
        · conv => whnf
          rw [sh2 w (by omega)]
          refine ⟨fun c4 => absurd (h.resolve_left c3) (Int32.not_le.mpr c4), fun c4 => ?_⟩
          conv => whnf
          exact ⟨rfl, rfl, rfl⟩
set_option maxRecDepth 100000 in
theorem dn_l {P : am_Q} {X : am_X} {w s : Nat} (hX : am_K d false nm_X12_density P X) (hK : ∀ l3, X 65 [some (aR 108), some (aI (nI w)), some (aI (nI s)), l3] [] (mm_l M 162 (fun j => if j < 320 then 0 else M.2 162 j))) : ∀ (m i : Nat), i + m = 320 → X 45 [some (aR 108), some (aI (nI w)), some (aI (nI s)), some (aI (nI i))] [] (mm_l M 162 (fun j => if j < i then 0 else M.2 162 j)) := by
  intro m
  induction m with
  | zero =>
    intro i hi
    have hi : i = 320 := by omega
    subst hi
    refine am_run hX 3 _ _ _ _ ?_
    conv => whnf
    exact ⟨fun _ => hK _, fun c => absurd (by decide) c⟩
  | succ m ih =>
    intro i hi
    refine am_run hX 3 _ _ _ _ ?_
    conv => whnf
    refine ⟨fun c => absurd c (nI_ge (a := i) (b := 320) (by omega) (by decide)), fun _ => ?_⟩
    refine am_run hX 7 _ _ _ _ ?_
    conv => whnf
    refine ⟨vp_in_nI (by show _ < 320; omega) (by decide), ?_⟩
    conv => whnf
    rw [nI_clamp (n := i) (by omega), nI_1, mm_l2, mm_ll]
    have e : vp_updL (fun j => if j < i then 0 else M.2 162 j) i 0 = fun j => if j < i + 1 then 0 else M.2 162 j := by
      funext j
      unfold vp_updL
      by_cases h : j = i
      · rw [if_pos h, if_pos (by omega)]
      · rw [if_neg h]
        dsimp only
        by_cases h2 : j < i
        · rw [if_pos h2, if_pos (by omega)]
        · rw [if_neg h2, if_neg (by omega)]
    rw [e]
    exact ih (i + 1) (by omega)
set_option maxRecDepth 100000 in
theorem dn_m1 {w s : Nat} (w1 : 1 ≤ w) (w3 : w ≤ 3) (hs : s < 2 ^ w) : am_M (d + 2) false nm_X12_density [aR 108, aI (nI w), aI (nI s)] M (am_q1 (aI 1) (de_2 M w s)) := by
  have h8 := w8 w3
  refine ⟨rfl, rfl, rfl, fun X hX => am_run hX 6 _ _ _ _ ?_⟩
  conv => whnf
  refine ⟨fun c => absurd c (nI_nlt (b := 1) w1 (by omega)), fun _ => ?_⟩
  refine am_run hX 3 _ _ _ _ ?_
  conv => whnf
  refine ⟨fun c => absurd c (nI_nlt (a := 3) w3 (by decide)), fun _ => ?_⟩
  refine am_run hX 2 _ _ _ _ ?_
  conv => whnf
  refine ⟨fun c => absurd c (nI_pos (by omega)), fun _ => ?_⟩
  refine am_run hX 5 _ _ _ _ ?_
  conv => whnf
  rw [sh2 w (by omega)]
  refine ⟨fun _ => ?_, fun c => absurd (nI_lt hs (by omega)) c⟩
  refine am_run hX 11 _ _ _ _ ?_
  conv => whnf
  simp only [mm_i1, mm_ii]
  have key := dn_l (M := mm_i M 108 (upd (upd (upd (upd (M.1 108) 0 0) 88 (nI w)) 89 0) 90 0)) (w := w) (s := s) hX (fun l3 => ?_) 320 0 (by omega)
  · have e : (fun j => if j < 0 then 0 else (mm_i M 108 (upd (upd (upd (upd (M.1 108) 0 0) 88 (nI w)) 89 0) 90 0)).2 162 j) = (mm_i M 108 (upd (upd (upd (upd (M.1 108) 0 0) 88 (nI w)) 89 0) 90 0)).2 162 := by
      funext j
      rw [if_neg (by omega)]
    rw [e, mm_lz] at key
    exact key
  · refine am_run hX 9 _ _ _ _ ?_
    conv => whnf
    refine am_c1 (ct_cell (d := d) s s) ?_
    conv => whnf
    refine ⟨vp_in_nI (by show _ < 320; omega) (by decide), ?_⟩
    conv => whnf
    rw [nI_clamp (by omega), mm_l2, mm_ll]
    exact ⟨rfl, rfl, rfl⟩
theorem bd_1 : bd (1, 0, 0, 0) := by
  refine ⟨⟨?_, ?_⟩, ⟨?_, ?_⟩, ⟨?_, ?_⟩, ⟨?_, ?_⟩⟩ <;> decide
theorem bd_z : bd (0, 0, 0, 0) := by
  refine ⟨⟨?_, ?_⟩, ⟨?_, ?_⟩, ⟨?_, ?_⟩, ⟨?_, ?_⟩⟩ <;> decide
/-- what stands behind density -/
theorem de_start {w s : Nat} (w1 : 1 ≤ w) (w3 : w ≤ 3) (hs : s < 2 ^ w) : de_s (de_2 (de_1 M w s) w s) w 0 := by
  have h8 := w8 w3
  refine ⟨w1, w3, Nat.zero_le _, by simp [de_2, de_1, on105, mm_i, mm_l, upd], by simp [de_2, mm_i, mm_l, upd], by simp [de_2, de_1, on105, mm_i, mm_l, upd], by simp [de_2, de_1, on105, mm_i, mm_l, upd]; rfl, by simp [de_2, de_1, on105, mm_i, mm_l, upd], by simp [de_2, de_1, on105, mm_i, mm_l, upd], fun i j hi hj => ?_⟩
  have h64 := ij64 w3 hi hj
  have hidx : i + 2 ^ w * j = s + 2 ^ w * s ↔ i = s ∧ j = s := by
    constructor
    · intro e
      have e1 : (i + 2 ^ w * j) % 2 ^ w = (s + 2 ^ w * s) % 2 ^ w := by rw [e]
      rw [Nat.add_mul_mod_self_left, Nat.add_mul_mod_self_left, Nat.mod_eq_of_lt hi, Nat.mod_eq_of_lt hs] at e1
      subst e1
      have e2 : 2 ^ w * j = 2 ^ w * i := by omega
      exact ⟨rfl, Nat.eq_of_mul_eq_mul_left (Nat.pow_pos (by decide)) e2⟩
    · rintro ⟨rfl, rfl⟩; rfl
  have m107 : ∀ p, p < 256 → (de_2 (de_1 M w s) w s).2 107 p = if p = 4 * (s + 2 ^ w * s) then 1 else 0 := fun p hp => by
    have : (de_2 (de_1 M w s) w s).2 107 p = vp_updL (fun j => if j < 256 then 0 else M.2 107 j) (4 * (s + 2 ^ w * s)) 1 p := by
      simp [de_2, de_1, on105, mm_i, mm_l]
    rw [this]
    unfold vp_updL
    by_cases e : p = 4 * (s + 2 ^ w * s)
    · rw [if_pos e, if_pos e]
    · rw [if_neg e, if_neg e]
      dsimp only
      rw [if_pos hp]
  have m162 : ∀ p, p < 320 → (de_2 (de_1 M w s) w s).2 162 p = if p = 5 * (8 * s + s) then 1 else 0 := fun p hp => by
    have : (de_2 (de_1 M w s) w s).2 162 p = vp_updL (fun j => if j < 320 then 0 else M.2 162 j) (5 * (8 * s + s)) 1 p := by
      simp [de_2, de_1, on105, mm_i, mm_l]
    rw [this]
    unfold vp_updL
    by_cases e : p = 5 * (8 * s + s)
    · rw [if_pos e, if_pos e]
    · rw [if_neg e, if_neg e]
      dsimp only
      rw [if_pos hp]
  generalize de_2 (de_1 M w s) w s = M' at m107 m162
  by_cases e : i = s ∧ j = s
  · obtain ⟨rfl, rfl⟩ := e
    refine ⟨(1, 0, 0, 0), bd_1, ⟨?_, ?_, ?_, ?_⟩, ?_, ?_, ?_, ?_, ?_⟩
    · rw [m107 _ (by omega), if_pos rfl]; rfl
    · rw [m107 _ (by omega), if_neg (by omega)]; rfl
    · rw [m107 _ (by omega), if_neg (by omega)]; rfl
    · rw [m107 _ (by omega), if_neg (by omega)]; rfl
    · rw [m162 _ (by omega), if_pos rfl]; rfl
    · rw [m162 _ (by omega), if_neg (by omega)]; rfl
    · rw [m162 _ (by omega), if_neg (by omega)]; rfl
    · rw [m162 _ (by omega), if_neg (by omega)]; rfl
    · rw [m162 _ (by omega), if_neg (by omega)]; rfl
  · have e1 : ¬ i + 2 ^ w * j = s + 2 ^ w * s := fun q => e (hidx.mp q)
    have e2 : ¬ 8 * i + j = 8 * s + s := by omega
    refine ⟨(0, 0, 0, 0), bd_z, ⟨?_, ?_, ?_, ?_⟩, ?_, ?_, ?_, ?_, ?_⟩
    · rw [m107 _ (by omega), if_neg (by omega)]; rfl
    · rw [m107 _ (by omega), if_neg (by omega)]; rfl
    · rw [m107 _ (by omega), if_neg (by omega)]; rfl
    · rw [m107 _ (by omega), if_neg (by omega)]; rfl
    · rw [m162 _ (by omega), if_neg (by omega)]; rfl
    · rw [m162 _ (by omega), if_neg (by omega)]; rfl
    · rw [m162 _ (by omega), if_neg (by omega)]; rfl
    · rw [m162 _ (by omega), if_neg (by omega)]; rfl
    · rw [m162 _ (by omega), if_neg (by omega)]; rfl
end DNS
section DNP
variable {ac : Nat → ClassId} {lo : Nat} {ad as : Nat → Nat} {b L : Nat} {xs : Nat → Int32} {hp : mm_M → Nat → xm_H} {I J : mm_M → Prop}
theorem pr_density (H : mm_L ac lo hp) (hJ0 : ∀ M, I M → J (th0 M)) (hJ : ∀ M w s, I M → 1 ≤ w → w ≤ 3 → s < 2 ^ w → J (de_2 (de_1 M w s) w s)) (p1 p2 : Int32) : la_I ac lo ad as b L xs hp I J nm_X11_density nm_X12_density [.int p1, .int p2] := by
  refine am_la_I (us := [aI p1, aI p2]) H fun M hI => ?_
  rcases dn_sp p1 p2 with h | ⟨w, s, rfl, rfl, w1, w3, hs⟩
  · refine am_wk (dn_x0 (d := 999) h) fun r M1 e => ⟨0, e.1, ?_⟩
    rw [e.2]
    exact am_wk (dn_m0 (d := 999) h) fun r M1 e => ⟨e.1, by rw [e.2]; exact hJ0 M hI⟩
  · refine am_wk (dn_x1 (d := 996) w1 w3 hs) fun r M1 e => ⟨1, e.1, ?_⟩
    rw [e.2]
    exact am_wk (dn_m1 (d := 998) w1 w3 hs) fun r M1 e => ⟨e.1, by rw [e.2]; exact hJ M w s hI w1 w3 hs⟩
end DNP
