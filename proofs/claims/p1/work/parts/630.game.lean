/-! game, played -/
def gm_in (T : Int32 → Int32 → Int32) (s : Int32) : Nat → Int32 → Int32 → Int32
  | 0, _, a => a
  | n + 1, t, a => gm_in T s n (t + 1) (a + T s t)
def gm_out (T : Int32 → Int32 → Int32) : Nat → Int32 → Int32 → Int32
  | 0, _, a => a
  | n + 1, s, a => gm_out T n (s + 1) (gm_in T s 4 0 a)
def gm_pl (p q s t : Int32) : Int32 := 16 * s + 4 * t + 2 * ((p >>> (s &&& 31)) &&& 1) + ((q >>> (t &&& 31)) &&& 1)
def gm_T1 (r : Int64) (p q s t : Int32) : Int32 := (r.toUInt64 >>> ((gm_pl p q s t).toInt64.toUInt64 &&& Int64.toUInt64 63)).toInt64.toInt32 &&& 1
def gm_T2 (r : Int64) (p q s t : Int32) : Int32 := ((r >>> ((gm_pl p q s t).toInt64 &&& 63)) &&& 1).toInt32
set_option maxRecDepth 100000 in
theorem gm_c1 (d : Nat) (r : Int64) (p q : Int32) (M : mm_M) : am_M (d + 1) false nm_X11_countWon [aJ r, aI p, aI q] M (am_q1 (aI (gm_out (gm_T1 r p q) 4 0 0)) M) := by
  refine ⟨rfl, rfl, rfl, fun X hX => am_run hX 2000 _ _ _ _ ?_⟩
  rw [show am_s0 (xp_row nm_X11_countWon).2.2.1 [aJ r, aI p, aI q] = [some (aJ r), none, some (aI p), some (aI q), none, none, none, none] from rfl]
  repeat (conv => whnf
          first
          | refine ⟨fun c => absurd c (by decide), fun _ => ?_⟩
          | refine ⟨fun _ => ?_, fun c => absurd (by decide) c⟩
          try simp only [am_s1, am_kil])
  conv => whnf
  exact ⟨trivial, rfl, rfl⟩
set_option maxRecDepth 100000 in
theorem gm_c2 (d : Nat) (r : Int64) (p q : Int32) (M : mm_M) : am_M (d + 1) false nm_X12_winsOf [aJ r, aI p, aI q] M (am_q1 (aI (gm_out (gm_T2 r p q) 4 0 0)) M) := by
  refine ⟨rfl, rfl, rfl, fun X hX => am_run hX 2000 _ _ _ _ ?_⟩
  rw [show am_s0 (xp_row nm_X12_winsOf).2.2.1 [aJ r, aI p, aI q] = [some (aJ r), none, some (aI p), some (aI q), none, none, none] from rfl]
  repeat (conv => whnf
          first
          | refine ⟨fun c => absurd c (by decide), fun _ => ?_⟩
          | refine ⟨fun _ => ?_, fun c => absurd (by decide) c⟩
          try simp only [am_s1, am_kil])
  conv => whnf
  exact ⟨trivial, rfl, rfl⟩
def gm_st (w : Nat → Int32) (k : Nat) (s : Int32 × Int32) : Int32 × Int32 := if s.1 < w k then (w k, nI k) else s
def gm_fd (w : Nat → Int32) : Nat → Nat → Int32 × Int32 → Int32 × Int32
  | 0, _, s => s
  | n + 1, k, s => gm_fd w n (k + 1) (gm_st w k s)
def gm_w1 (r : Int64) (k : Nat) : Int32 := gm_out (gm_T1 r (nI k >>> ((4 : Int32) &&& 31)) (nI k &&& 15)) 4 0 0
def gm_w2 (r : Int64) (k : Nat) : Int32 := gm_out (gm_T2 r (nI k / 16) (nI k - nI k / 16 * 16)) 4 0 0
theorem gm_256 : (256 : Int32) = nI 256 := rfl
set_option maxRecDepth 100000 in
theorem gm_l1 {d : Nat} {r : Int64} {M : mm_M} {F : Int32 × Int32} {X : am_X} (hX : am_K (d + 1) false nm_X11_game (am_q1 (aI F.1) (mm_i M 0 (upd (M.1 0) 18 F.2))) X) : ∀ (n k : Nat), k + n = 256 → ∀ (s : Int32 × Int32) (l5 : Option am_V), gm_fd (gm_w1 r) n k s = F → X 5 [some (aR 0), some (aJ r), none, some (aI s.1), some (aI (nI k)), l5] [] (mm_i M 0 (upd (M.1 0) 18 s.2)) := by
  intro n
  induction n with
  | zero =>
    intro k hk s l5 hF
    have hk : k = 256 := by omega
    subst hk
    have hF : s = F := hF
    subst hF
    refine am_run hX 5 _ _ _ _ ?_
    conv => whnf
    refine ⟨fun _ => ?_, fun c => absurd (by decide) c⟩
    conv => whnf
    exact ⟨trivial, rfl, rfl⟩
  | succ n ih =>
    intro k hk s l5 hF
    refine am_run hX 3 _ _ _ _ ?_
    conv => whnf
    refine ⟨fun c => absurd c (nI_ge (a := k) (b := 256) (by omega) (by decide)), fun _ => ?_⟩
    refine am_run hX 12 _ _ _ _ ?_
    conv => whnf
    refine am_c1 (gm_c1 d r (nI k >>> ((4 : Int32) &&& 31)) (nI k &&& 15) _) ?_
    conv => whnf
    refine ⟨fun c => ?_, fun c => ?_⟩
    · refine am_run hX 2 _ _ _ _ ?_
      conv => whnf
      rw [nI_1]
      have c : gm_w1 r k ≤ s.1 := c
      refine ih (k + 1) (by omega) s _ ?_
      rw [← hF]
      show _ = gm_fd (gm_w1 r) n (k + 1) (gm_st (gm_w1 r) k s)
      unfold gm_st
      rw [if_neg (Int32.not_lt.mpr c)]
    · refine am_run hX 7 _ _ _ _ ?_
      conv => whnf
      rw [nI_1, mm_i1, mm_ii, upd_two]
      have c : ¬ gm_w1 r k ≤ s.1 := c
      refine ih (k + 1) (by omega) (gm_w1 r k, nI k) _ ?_
      rw [← hF]
      show _ = gm_fd (gm_w1 r) n (k + 1) (gm_st (gm_w1 r) k s)
      unfold gm_st
      rw [if_pos (Int32.not_le.mp c)]
set_option maxRecDepth 100000 in
theorem gm_1 (d : Nat) (r : Int64) (M : mm_M) : am_M (d + 2) false nm_X11_game [aR 0, aJ r] M (am_q1 (aI (gm_fd (gm_w1 r) 256 0 (-1, M.1 0 18)).1) (mm_i M 0 (upd (M.1 0) 18 (gm_fd (gm_w1 r) 256 0 (-1, M.1 0 18)).2))) := by
  refine ⟨rfl, rfl, rfl, fun X hX => am_run hX 4 _ _ _ _ ?_⟩
  conv => whnf
  have hl := gm_l1 (r := r) hX 256 0 rfl (-1, M.1 0 18) none rfl
  simp only [upd_self, mm_iz] at hl
  exact hl
set_option maxRecDepth 100000 in
theorem gm_l2 {d : Nat} {r : Int64} {M : mm_M} {F : Int32 × Int32} {X : am_X} (hX : am_K (d + 1) false nm_X12_game (am_q1 (aI F.1) (mm_i M 108 (upd (M.1 108) 147 F.2))) X) : ∀ (n k : Nat), k + n = 256 → ∀ (s : Int32 × Int32) (l5 : Option am_V), gm_fd (gm_w2 r) n k s = F → X 10 [some (aR 108), some (aJ r), none, some (aI s.1), some (aI (nI k)), l5] [] (mm_i M 108 (upd (M.1 108) 147 s.2)) := by
  intro n
  induction n with
  | zero =>
    intro k hk s l5 hF
    have hk : k = 256 := by omega
    subst hk
    have hF : s = F := hF
    subst hF
    refine am_run hX 5 _ _ _ _ ?_
    conv => whnf
    refine ⟨fun _ => ?_, fun c => absurd (by decide) c⟩
    conv => whnf
    exact ⟨trivial, rfl, rfl⟩
  | succ n ih =>
    intro k hk s l5 hF
    refine am_run hX 3 _ _ _ _ ?_
    conv => whnf
    refine ⟨fun c => absurd c (nI_ge (a := k) (b := 256) (by omega) (by decide)), fun _ => ?_⟩
    refine am_run hX 12 _ _ _ _ ?_
    conv => whnf
    refine ⟨by decide, ?_⟩
    conv => whnf
    refine ⟨by decide, ?_⟩
    conv => whnf
    refine am_c1 (gm_c2 d r (nI k / 16) (nI k - nI k / 16 * 16) _) ?_
    conv => whnf
    refine ⟨fun c => ?_, fun c => ?_⟩
    · refine am_run hX 7 _ _ _ _ ?_
      conv => whnf
      rw [nI_1, mm_i1, mm_ii, upd_two]
      have c : s.1 < gm_w2 r k := c
      refine ih (k + 1) (by omega) (gm_w2 r k, nI k) _ ?_
      rw [← hF]
      show _ = gm_fd (gm_w2 r) n (k + 1) (gm_st (gm_w2 r) k s)
      unfold gm_st
      rw [if_pos c]
    · refine am_run hX 3 _ _ _ _ ?_
      conv => whnf
      rw [nI_1]
      have c : ¬ s.1 < gm_w2 r k := c
      refine ih (k + 1) (by omega) s _ ?_
      rw [← hF]
      show _ = gm_fd (gm_w2 r) n (k + 1) (gm_st (gm_w2 r) k s)
      unfold gm_st
      rw [if_neg c]
set_option maxRecDepth 100000 in
theorem gm_2 (d : Nat) (r : Int64) (M : mm_M) : am_M (d + 2) false nm_X12_game [aR 108, aJ r] M (am_q1 (aI (gm_fd (gm_w2 r) 256 0 (-1, M.1 108 147)).1) (mm_i M 108 (upd (upd (M.1 108) 0 0) 147 (gm_fd (gm_w2 r) 256 0 (-1, M.1 108 147)).2))) := by
  refine ⟨rfl, rfl, rfl, fun X hX => am_run hX 7 _ _ _ _ ?_⟩
  conv => whnf
  have hX' : am_K (d + 1) false nm_X12_game (am_q1 (aI (gm_fd (gm_w2 r) 256 0 (-1, M.1 108 147)).1) (mm_i (mm_i M 108 (upd (M.1 108) 0 0)) 108 (upd ((mm_i M 108 (upd (M.1 108) 0 0)).1 108) 147 (gm_fd (gm_w2 r) 256 0 (-1, M.1 108 147)).2))) X := by
    rw [mm_ii, mm_i1]
    exact hX
  have hl := gm_l2 (r := r) hX' 256 0 rfl (-1, M.1 108 147) none rfl
  rw [show M.1 108 147 = (mm_i M 108 (upd (M.1 108) 0 0)).1 108 147 by rw [mm_i1]; rfl] at hl
  simp only [upd_self, mm_iz] at hl
  exact hl
