/-! group: the class's signOf and restOf -/
theorem t8_zz : ∀ n, t8n n (0, 0, 0, 0) = (0, 0, 0, 0)
  | 0 => rfl
  | n + 1 => by
    show t8 (t8n n (0, 0, 0, 0)) = _
    rw [t8_zz n]
    rfl
theorem t8_e2 {u : R4} {a b : Nat} (hu : ¬ u = (0, 0, 0, 0)) (h : t8n (2 * a) u = t8n (2 * b) u) : a % 4 = b % 4 := by
  have h1 : t8n (2 * (a + (4 - b % 4))) u = u := by
    have : t8n (2 * (4 - b % 4)) (t8n (2 * a) u) = t8n (2 * (4 - b % 4)) (t8n (2 * b) u) := by rw [h]
    rw [← t8n_a, ← t8n_a, t8_mod u (n := 2 * (4 - b % 4) + 2 * b) (m := 0) (by omega)] at this
    rw [t8_mod u (m := 2 * (4 - b % 4) + 2 * a) (by omega)]
    exact this
  generalize hc : a + (4 - b % 4) = c at h1
  have h2 : c % 4 = 0 := by
    apply Classical.byContradiction
    intro q
    apply hu
    have h4 : t8n 4 u = u := by
      rcases (by omega : c % 4 = 1 ∨ c % 4 = 2 ∨ c % 4 = 3) with e | e | e
      · rw [t8_mod u (m := 2 * c + 2 * c) (by omega), t8n_a, h1, h1]
      · rw [t8_mod u (m := 2 * c) (by omega), h1]
      · rw [t8_mod u (m := 2 * c + 2 * c) (by omega), t8n_a, h1, h1]
    exact t8_ne (n := 0) h4
  omega
/-- how far a ROOT is off -/
def ofV (ys : Nat → R4) (x z i : Nat) : Nat := (pc (x &&& z) + 2 * pc (z &&& (i ^^^ x)) + 4 - quV (ys i) (ys (i ^^^ x))) % 4
theorem of_s {ys : Nat → R4} {x z i s : Nat} (hs : s < 2) (hc : cmO ys x i) (hn : ¬ ys i = (0, 0, 0, 0)) : t8n (ex_e x z i + 4 * s) (ys (i ^^^ x)) = ys i ↔ ofV ys x z i = 2 * s := by
  have hq := hc.2 hn
  have hu : ¬ ys (i ^^^ x) = (0, 0, 0, 0) := fun e => hn (hc.1.mpr e)
  have e1 : ys i = t8n (2 * quV (ys i) (ys (i ^^^ x))) (ys (i ^^^ x)) := quV_t hq
  have e2 : t8n (ex_e x z i + 4 * s) (ys (i ^^^ x)) = t8n (2 * (pc (x &&& z) + 2 * pc (z &&& (i ^^^ x)) + 2 * s)) (ys (i ^^^ x)) := by
    refine t8_mod _ ?_
    unfold ex_e
    omega
  have e3 : t8n (ex_e x z i + 4 * s) (ys (i ^^^ x)) = ys i ↔ t8n (2 * (pc (x &&& z) + 2 * pc (z &&& (i ^^^ x)) + 2 * s)) (ys (i ^^^ x)) = t8n (2 * quV (ys i) (ys (i ^^^ x))) (ys (i ^^^ x)) := by
    rw [e2, ← e1]
  rw [e3]
  unfold ofV
  constructor
  · intro h
    have := t8_e2 hu h
    omega
  · intro h
    refine t8_mod _ ?_
    omega
theorem nI_sb3 {a q : Nat} (hq : q < 4) : (nI a - nI q) &&& 3 = nI ((a + 4 - q) % 4) := by
  have e : -nI q = nI (4294967296 - q) := by
    rcases (by omega : q = 0 ∨ q = 1 ∨ q = 2 ∨ q = 3) with rfl | rfl | rfl | rfl <;> decide
  rw [Int32.sub_eq_add_neg, e, nI_add, nI_m3]
  congr 1
  omega
section GPD
variable {d : Nat} {M : mm_M}
/-- the sign so far -/
def sgI (ys : Nat → R4) (x z i : Nat) (sg : Int32) : Prop := (sg = -1 ∧ ∀ j, j < i → ys j = (0, 0, 0, 0)) ∨ ∃ s, s < 2 ∧ sg = nI s ∧ (∃ j, j < i ∧ ¬ ys j = (0, 0, 0, 0)) ∧ ∀ j, j < i → ¬ ys j = (0, 0, 0, 0) → ofV ys x z j = 2 * s
theorem sg_no {w x z i : Nat} {ys : Nat → R4} (hc : ∀ i, i < 2 ^ w → cmO ys x i) (hi : i < 2 ^ w) (hn : ¬ ys i = (0, 0, 0, 0)) (h : ∀ s, s < 2 → ofV ys x z i = 2 * s → ∃ j, j < 2 ^ w ∧ ¬ ys j = (0, 0, 0, 0) ∧ ¬ ofV ys x z j = 2 * s) : sgV w ys x z = -1 := by
  have key : ∀ s, s < 2 → ¬ fxB w ys x z s = true := by
    intro s hs hf
    have h1 := (of_s hs (hc i hi) hn).mp (fx_iff.mp hf i hi)
    obtain ⟨j, j1, j2, j3⟩ := h s hs h1
    exact j3 ((of_s hs (hc j j1) j2).mp (fx_iff.mp hf j j1))
  unfold sgV
  rw [if_neg (key 0 (by decide)), if_neg (key 1 (by decide))]
theorem sg_ye {w x z s : Nat} {ys : Nat → R4} (hz : nzS w ys) (hc : ∀ i, i < 2 ^ w → cmO ys x i) (hs : s < 2) (h : ∀ j, j < 2 ^ w → ¬ ys j = (0, 0, 0, 0) → ofV ys x z j = 2 * s) : sgV w ys x z = nI s := by
  have hf : fxB w ys x z s = true := by
    rw [fx_iff]
    intro j hj
    by_cases c : ys j = (0, 0, 0, 0)
    · rw [(hc j hj).1.mp c, c, t8_zz]
    · exact (of_s hs (hc j hj) c).mpr (h j hj c)
  unfold sgV
  rcases (by omega : s = 0 ∨ s = 1) with rfl | rfl
  · rw [if_pos hf]
    rfl
  · have : ¬ fxB w ys x z 0 = true := fun q => by
      rw [fx_one hz q] at hf
      cases hf
    rw [if_neg this, if_pos hf]
    rfl
set_option maxRecDepth 100000 in
theorem sg_l {w x z : Nat} {ys : Nat → R4} {P : am_Q} {X : am_X} (hX : am_K (d + 1) false nm_X4_signOf P X) (h : gcS M w ys) (hz : nzS w ys) (hx : x < 2 ^ w) (hzz : z < 2 ^ w) (hq : ∀ i, i < 2 ^ w → M.1 23 i = qiV ys x i ∧ cmO ys x i) (hP : P (.inl (some (aI (sgV w ys x z)))) M) : ∀ (m i : Nat) (sg : Int32) (l6 : Option am_V), i + m = 2 ^ w → sgI ys x z i sg → X 13 [some (aR 17), some (aI (nI x)), some (aI (nI z)), some (aI sg), some (aI (nI (pc (x &&& z)))), some (aI (nI i)), l6] [] M := by
  obtain ⟨w8, hs, h6, hst⟩ := h
  have h8 := w256 w8
  intro m
  induction m with
  | zero =>
    intro i sg l6 hi hI
    obtain rfl : i = 2 ^ w := by omega
    refine am_run hX 7 _ _ _ _ ?_
    conv => whnf
    rw [hs]
    refine ⟨fun _ => ?_, fun c => absurd (nI_le (Nat.le_refl _) (by omega)) c⟩
    conv => whnf
    refine ⟨trivial, ?_⟩
    rcases hI with ⟨_, h0⟩ | ⟨s, s2, rfl, _, h1⟩
    · obtain ⟨j, hj, hy⟩ := hz
      exact absurd (h0 j hj) hy
    · rw [sg_ye hz (fun i hi => (hq i hi).2) s2 h1] at hP
      exact hP
  | succ m ih =>
    intro i sg l6 hi hI
    obtain ⟨q1, q2⟩ := hq i (by omega)
    have hxi : i ^^^ x < 2 ^ w := xq_lt (by omega) hx
    have hxz : x &&& z < 2 ^ w := Nat.and_lt_two_pow _ hzz
    have hzi : z &&& (i ^^^ x) < 2 ^ w := Nat.and_lt_two_pow _ hxi
    refine am_run hX 5 _ _ _ _ ?_
    conv => whnf
    rw [hs]
    refine ⟨fun c => absurd c (nI_ge (by omega) (by omega)), fun _ => ?_⟩
    refine am_run hX 6 _ _ _ _ ?_
    conv => whnf
    refine ⟨vp_in_nI (by show i < 256; omega) (by decide), ?_⟩
    conv => whnf
    rw [nI_clamp (n := i) (by omega), q1]
    by_cases c : ys i = (0, 0, 0, 0)
    · rw [show qiV ys x i = -1 from if_pos c]
      refine ⟨fun q => absurd rfl q, fun _ => ?_⟩
      refine am_run hX 3 _ _ _ _ ?_
      conv => whnf
      rw [nI_1]
      refine ih (i + 1) sg _ (by omega) ?_
      rcases hI with ⟨e, h0⟩ | ⟨s, s2, e, ⟨j, j1, j2⟩, h1⟩
      · refine Or.inl ⟨e, fun j hj => ?_⟩
        by_cases q : j = i
        · subst q
          exact c
        · exact h0 j (by omega)
      · refine Or.inr ⟨s, s2, e, ⟨j, by omega, j2⟩, fun j hj hn => ?_⟩
        by_cases q : j = i
        · subst q
          exact absurd c hn
        · exact h1 j (by omega) hn
    · have hqv := q2.2 c
      rw [show qiV ys x i = nI (quV (ys i) (ys (i ^^^ x))) from if_neg c]
      refine ⟨fun _ => ?_, fun q => absurd (nI_nm (by omega)) q⟩
      refine am_run hX 16 _ _ _ _ ?_
      conv => whnf
      rw [nI_xor, nI_and]
      refine am_c1 (ct_bit16 d _ (by omega) M) ?_
      conv => whnf
      refine ⟨vp_in_nI (by show i < 256; omega) (by decide), ?_⟩
      refine am_run hX 6 _ _ _ _ ?_
      conv => whnf
      rw [nI_clamp (n := i) (by omega), q1, show qiV ys x i = nI (quV (ys i) (ys (i ^^^ x))) from if_neg c, show (2 : Int32) = nI 2 from rfl, nI_mul, nI_add, nI_sb3 hqv]
      have eo : (pc (x &&& z) + 2 * pc (z &&& (i ^^^ x)) + 4 - quV (ys i) (ys (i ^^^ x))) % 4 = ofV ys x z i := rfl
      rw [eo]
      have o4 : ofV ys x z i < 4 := Nat.mod_lt _ (by decide)
      have hP' : sgV w ys x z = -1 → P (.inl (some (aI (-1)))) M := fun e => by
        rw [e] at hP
        exact hP
      rw [nI_m1]
      -- the ROOT is taken
      have hgo : ∀ s, s < 2 → ofV ys x z i = 2 * s → (sg = -1 ∨ sg = nI s) → X 87 [some (aR 17), some (aI (nI x)), some (aI (nI z)), some (aI sg), some (aI (nI (pc (x &&& z)))), some (aI (nI i)), some (aI (nI (ofV ys x z i)))] [] M := by
        intro s s2 e hsg
        refine am_run hX 6 _ _ _ _ ?_
        conv => whnf
        rw [show (1 : Int32) = nI 1 from rfl, nI_sh (by omega) 1 (by decide), nI_add, Nat.pow_one, show ofV ys x z i / 2 = s by omega]
        refine ih (i + 1) _ _ (by omega) (Or.inr ⟨s, s2, rfl, ⟨i, by omega, c⟩, fun j hj hn => ?_⟩)
        by_cases q : j = i
        · subst q
          exact e
        · rcases hI with ⟨_, h0⟩ | ⟨s', _, e', _, h1⟩
          · exact absurd (h0 j (by omega)) hn
          · have : s' = s := by
              rcases hsg with hsg | hsg
              · rw [e'] at hsg
                exact absurd hsg (nI_nm (by omega))
              · rw [e'] at hsg
                exact (nI_eq (by omega) (by omega)).mp hsg
            subst this
            exact h1 j (by omega) hn
      refine ⟨fun c1 => ?_, fun c1 => ?_⟩
      · -- odd
        have hodd : ofV ys x z i % 2 = 1 := by
          rcases Nat.mod_two_eq_zero_or_one (ofV ys x z i) with q | q
          · rw [q] at c1
            exact absurd rfl c1
          · exact q
        refine am_run hX 2 _ _ _ _ ?_
        conv => whnf
        refine ⟨trivial, hP' (sg_no (fun i hi => (hq i hi).2) (i := i) (by omega) c (fun s s2 e => by omega))⟩
      · have heven : ofV ys x z i % 2 = 0 := by
          rcases Nat.mod_two_eq_zero_or_one (ofV ys x z i) with q | q
          · exact q
          · rw [q] at c1
            exact absurd (by decide) c1
        refine am_run hX 3 _ _ _ _ ?_
        conv => whnf
        refine ⟨fun c2 => ?_, fun c2 => ?_⟩
        · exact hgo (ofV ys x z i / 2) (by omega) (by omega) (Or.inl c2)
        · refine am_run hX 5 _ _ _ _ ?_
          conv => whnf
          rw [show (1 : Int32) = nI 1 from rfl, nI_sh (by omega) 1 (by decide), Nat.pow_one]
          refine ⟨fun c3 => ?_, fun c3 => ?_⟩
          · exact hgo (ofV ys x z i / 2) (by omega) (by omega) (Or.inr c3)
          · rcases hI with ⟨e, _⟩ | ⟨s, s2, e, ⟨j, j1, j2⟩, h1⟩
            · exact absurd e c2
            · refine am_run hX 2 _ _ _ _ ?_
              conv => whnf
              refine ⟨trivial, hP' (sg_no (fun i hi => (hq i hi).2) (i := i) (by omega) c (fun s' s2' e' => ⟨j, by omega, j2, fun q => ?_⟩))⟩
              have hj := h1 j j1 j2
              apply c3
              rw [e]
              congr 1
              omega
set_option maxRecDepth 100000 in
theorem ct_sgnC {w x z : Nat} {ys : Nat → R4} (h : gcS M w ys) (hz : nzS w ys) (hx : x < 2 ^ w) (hzz : z < 2 ^ w) (hq : ∀ i, i < 2 ^ w → M.1 23 i = qiV ys x i ∧ cmO ys x i) : am_M (d + 2) false nm_X4_signOf [aR 17, aI (nI x), aI (nI z)] M (am_q1 (aI (sgV w ys x z)) M) := by
  have h8 := w256 h.1
  have hxz : x &&& z < 2 ^ w := Nat.and_lt_two_pow _ hzz
  refine ⟨rfl, rfl, rfl, fun X hX => am_run hX 9 _ _ _ _ ?_⟩
  conv => whnf
  rw [nI_and]
  refine am_c1 (ct_bit16 d _ (by omega) M) ?_
  conv => whnf
  exact sg_l (d := d) hX h hz hx hzz hq ⟨rfl, rfl⟩ (2 ^ w) 0 (-1) none (by omega) (Or.inl ⟨rfl, fun j hj => absurd hj (Nat.not_lt_zero _)⟩)
/-- the class's rows of THE GROUP -/
def gcR (N : mm_M) (R : Nat → Nat) (r : Nat) : Prop := N.1 17 10 = nI r ∧ ∀ i, i < r → N.1 21 i = nI (R i)
set_option maxRecDepth 100000 in
theorem rgl_l {P : am_Q} {X : am_X} {R : Nat → Nat} {v k : Nat} (hX : am_K d false nm_X4_restOf P X) (hk : k ≤ 16) (hv : v < 65536) (hR : gcR M R k) (hl : ∀ j, j < k → R j < 65536) (hP : P (.inl (some (aI (nI (rdV R v k))))) M) : ∀ (m i : Nat), i + m = k → X 4 [some (aR 17), some (aI (nI v)), some (aI (nI (rdV R v i))), some (aI (nI i))] [] M := by
  intro m
  induction m with
  | zero =>
    intro i ei
    obtain rfl : i = k := by omega
    refine am_run hX 6 _ _ _ _ ?_
    conv => whnf
    rw [hR.1]
    refine ⟨fun _ => ?_, fun c => absurd (nI_le (Nat.le_refl _) (by omega)) c⟩
    conv => whnf
    exact ⟨trivial, hP⟩
  | succ m ih =>
    intro i ei
    have ih := ih (i + 1) (by omega)
    have r1 := hR.2 i (by omega)
    have r2 := hl i (by omega)
    have hw : rdV R v i < 65536 := rdV_l hv (fun j hj => hl j (by omega))
    have e21 : M.1 21 (nI i).toNatClampNeg = nI (R i) := by
      rw [nI_clamp (by omega)]
      exact r1
    refine am_run hX 18 _ _ _ _ ?_
    conv => whnf
    rw [hR.1]
    refine ⟨fun c => absurd c (nI_ge (by omega) (by omega)), fun _ => ?_⟩
    conv => whnf
    refine ⟨vp_in_nI (by show i < 16; omega) (by decide), ?_⟩
    conv => whnf
    refine ⟨vp_in_nI (by show i < 16; omega) (by decide), ?_⟩
    conv => whnf
    rw [e21]
    refine ⟨fun c => ?_, fun c => ?_⟩
    · have c0 := (rd_bit r2 hw).mp c
      have e : rdV R v (i + 1) = rdV R v i := by
        show rdV R v i ^^^ (if (rdV R v i).testBit (rdP (R i)) = true then R i else 0) = _
        rw [if_neg c0, Nat.xor_zero]
      rw [e] at ih
      refine am_run hX 5 _ _ _ _ ?_
      conv => whnf
      rw [show nI (rdV R v i) ^^^ 0 = nI (rdV R v i) from by rw [show (0 : Int32) = nI 0 from rfl, nI_xor, Nat.xor_zero], nI_1]
      exact ih
    · have c0 : (rdV R v i).testBit (rdP (R i)) = true := Classical.not_not.mp (fun y => c ((rd_bit r2 hw).mpr y))
      have e : rdV R v (i + 1) = rdV R v i ^^^ R i := by
        show rdV R v i ^^^ (if (rdV R v i).testBit (rdP (R i)) = true then R i else 0) = _
        rw [if_pos c0]
      rw [e] at ih
      refine am_run hX 9 _ _ _ _ ?_
      conv => whnf
      refine ⟨vp_in_nI (by show i < 16; omega) (by decide), ?_⟩
      conv => whnf
      rw [e21, nI_xor, nI_1]
      exact ih
set_option maxRecDepth 100000 in
theorem ct_restG {R : Nat → Nat} {v k : Nat} (hk : k ≤ 16) (hv : v < 65536) (hR : gcR M R k) (hl : ∀ j, j < k → R j < 65536) : am_M (d + 1) false nm_X4_restOf [aR 17, aI (nI v)] M (am_q1 (aI (nI (rdV R v k))) M) := by
  refine ⟨rfl, rfl, rfl, fun X hX => am_run hX 4 _ _ _ _ ?_⟩
  conv => whnf
  exact rgl_l (d := d) hX hk hv hR hl ⟨rfl, rfl⟩ k 0 (by omega)
end GPD
