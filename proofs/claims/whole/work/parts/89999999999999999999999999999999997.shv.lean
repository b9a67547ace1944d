/-! SHORTEST: the class spreads to a key -/
/-- a key with no signs -/
def un4 (k : K4) : K4 := (k.1 % 16, k.2.1 % 16, k.2.2.1 % 16, k.2.2.2 % 16)
theorem an_s {a y m : Nat} (h : a < 32) : (a + 32 * y) &&& (15 + 32 * m) = a % 16 + 32 * (y &&& m) := by
  have e1 : ((a + 32 * y) &&& (15 + 32 * m)) / 2 ^ 5 = y &&& m := by
    rw [Nat.and_div_two_pow]
    congr 1 <;> omega
  have e2 : ((a + 32 * y) &&& (15 + 32 * m)) % 2 ^ 5 = a % 16 := by
    rw [Nat.and_mod_two_pow, show (a + 32 * y) % 2 ^ 5 = a by omega, show (15 + 32 * m) % 2 ^ 5 = 2 ^ 4 - 1 by omega, Nat.and_two_pow_sub_one_eq_mod]
  omega
theorem un_k {k : K4} (hk : k4 k) : nI (kK k) &&& 507375 = nI (kK (un4 k)) := by
  rw [show (507375 : Int32) = nI 507375 from rfl, nI_and, kK_4, kK_4]
  congr 1
  rw [show k.1 + 32 * k.2.1 + 1024 * k.2.2.1 + 32768 * k.2.2.2 = k.1 + 32 * (k.2.1 + 32 * (k.2.2.1 + 32 * k.2.2.2)) by omega, show 507375 = 15 + 32 * (15 + 32 * (15 + 32 * 15)) from rfl, an_s hk.1, an_s hk.2.1, an_s hk.2.2.1, show (15 : Nat) = 2 ^ 4 - 1 from rfl, Nat.and_two_pow_sub_one_eq_mod]
  show _ = k.1 % 16 + 32 * (k.2.1 % 16) + 1024 * (k.2.2.1 % 16) + 32768 * (k.2.2.2 % 16)
  omega
/-- what spreading to a key changes -/
def sdF (R : Nat) (v : Int32) (M N : mm_M) : Prop := (∀ k, k ≠ 63 → N.1 k = M.1 k) ∧ N.1 63 = upd (M.1 63) R v ∧ (∀ k, k ≠ 64 → N.2 k = M.2 k) ∧ ∀ r, r ≠ R → N.2 64 r = M.2 64 r
theorem x_16 {s t : Nat} (hs : s < 16) (ht : t < 16) : s ^^^ t < 16 := Nat.xor_lt_two_pow (n := 4) hs ht
theorem x_i {s t p : Nat} (h : p = s ^^^ t) : p ^^^ t = s := by
  rw [h, Nat.xor_assoc, Nat.xor_self, Nat.xor_zero]
theorem upl_at {f : Nat → Int64} {i : Nat} {v : Int64} : vp_updL f i v i = v := if_pos rfl
theorem upl_ne {f : Nat → Int64} {i j : Nat} {v : Int64} (h : j ≠ i) : vp_updL f i v j = f j := if_neg h
section SHV
variable {d : Nat} {M : mm_M} {k : K4}
/-- the rows of signs so far -/
def sdN (M N : mm_M) (R T E : Nat) (f : Nat → Bool) (s : Nat) : Prop := ∀ p, p < 16 → nb (N.2 64 R) p = if nb (M.2 64 R) p = 0 ∧ p ^^^ T < s ∧ f (p ^^^ T) = true then E + 1 else nb (M.2 64 R) p
set_option maxRecDepth 100000 in
theorem sd_l {P : am_Q} {X : am_X} {R T E S : Nat} {kv v : Int32} {f : Nat → Bool} (hX : am_K d false nm_X2_spreadTo P X) (hR : R < 720) (hT : T < 16) (hE : E < 15) (hS : S < 2 ^ 16) (hf : ∀ s, s < 16 → S / 2 ^ s % 2 = if f s = true then 1 else 0) (hP : ∀ N, sdF R v M N → sdN M N R T E f 16 → P (.inl none) N) : ∀ (m s : Nat) (N : mm_M) (l7 : Option am_V), s + m = 16 → sdF R v M N → sdN M N R T E f s → X 26 [some (aR 57), some (aI kv), some (aI (nI S)), some (aI (nI E)), some (aI (nI R)), some (aI (nI T)), some (aI (nI s)), l7] [] N := by
  intro m
  induction m with
  | zero =>
    intro s N l7 hs hF hN
    obtain rfl : s = 16 := by omega
    refine am_run hX 3 _ _ _ _ ?_
    conv => whnf
    refine ⟨fun _ => ?_, fun z => absurd (by decide) z⟩
    refine am_run hX 1 _ _ _ _ ?_
    conv => whnf
    exact ⟨trivial, hP N hF hN⟩
  | succ m ih =>
    intro s N l7 hs hF hN
    have s16 : s < 16 := by omega
    have p16 := x_16 s16 hT
    obtain ⟨p, hp⟩ : ∃ p, p = s ^^^ T := ⟨_, rfl⟩
    rw [← hp] at p16
    have px := x_i hp
    have e4 : (4 : Int32) * (nI s ^^^ nI T) = nI (4 * p) := by rw [show (4 : Int32) = nI 4 from rfl, nI_xor, nI_mul, ← hp]
    have hfs := hf s s16
    have np := hN p p16
    rw [px] at np
    -- the step leaves it
    have keep : (nb (M.2 64 R) p = 0 → f s = true → False) → sdN M N R T E f (s + 1) := by
      intro hno q hq
      rw [hN q hq]
      by_cases c : q = p
      · subst c
        rw [px, if_neg (fun w => by have := w.2.1; omega), if_neg (fun w => hno w.1 w.2.2)]
      · have hne : q ^^^ T ≠ s := fun w => c (by rw [hp, ← w, Nat.xor_assoc, Nat.xor_self, Nat.xor_zero])
        by_cases c2 : nb (M.2 64 R) q = 0 ∧ q ^^^ T < s ∧ f (q ^^^ T) = true
        · rw [if_pos c2, if_pos ⟨c2.1, by have := c2.2.1; omega, c2.2.2⟩]
        · rw [if_neg c2, if_neg (fun w => c2 ⟨w.1, by have := w.2.1; omega, w.2.2⟩)]
    have back : ∀ (N' : mm_M) l7', sdF R v M N' → sdN M N' R T E f (s + 1) → X 87 [some (aR 57), some (aI kv), some (aI (nI S)), some (aI (nI E)), some (aI (nI R)), some (aI (nI T)), some (aI (nI s)), l7'] [] N' := by
      intro N' l7' a b
      refine am_run hX 2 _ _ _ _ ?_
      conv => whnf
      rw [nI_1]
      exact ih (s + 1) N' l7' (by omega) a b
    refine am_run hX 3 _ _ _ _ ?_
    conv => whnf
    refine ⟨fun z => absurd z (nI_ge (a := s) (b := 16) s16 (by decide)), fun _ => ?_⟩
    refine am_run hX 12 _ _ _ _ ?_
    conv => whnf
    rw [e4, nI_sh (by omega) s (by omega), nI_m1, hfs]
    refine ⟨fun z => ?_, fun z => ?_⟩
    · refine back N _ hF (keep fun _ w => ?_)
      rw [if_pos w] at z
      exact absurd z (by decide)
    · have fs : f s = true := by
        apply Classical.byContradiction
        intro w
        rw [if_neg w] at z
        exact z rfl
      refine am_run hX 11 _ _ _ _ ?_
      conv => whnf
      refine ⟨vp_in_nI hR (by decide), ?_⟩
      conv => whnf
      rw [nI_clamp (n := R) (by omega), nb_e _ p16, nJ_m15, show (N.2 64 R).toBitVec.toNat / 2 ^ (4 * p) % 16 = nb (N.2 64 R) p from rfl, lg_0, show (0 : Int64) = nJ 0 from rfl, nJ_i (by have := nb_lt (N.2 64 R) p; omega) (by decide)]
      have np' : nb (N.2 64 R) p = nb (M.2 64 R) p := by
        rw [np, if_neg (fun w => by have := w.2.1; omega)]
      refine ⟨fun y => ?_, fun y => ?_⟩
      · exact back N _ hF (keep fun w _ => y (np'.trans w))
      · have y := Decidable.byContradiction y
        refine am_run hX 13 _ _ _ _ ?_
        conv => whnf
        refine ⟨vp_in_nI hR (by decide), ?_⟩
        conv => whnf
        refine ⟨vp_in_nI hR (by decide), ?_⟩
        rw [nI_clamp (n := R) (by omega), nI_J E (by omega), show (1 : Int64) = nJ 1 from rfl, nJ_add]
        refine back _ _ ⟨hF.1, hF.2.1, fun j hj => by rw [mm_lne _ _ _ _ hj]; exact hF.2.2.1 j hj, fun r hr => ?_⟩ (fun q hq => ?_)
        · rw [mm_l2, upl_ne hr]
          exact hF.2.2.2 r hr
        · rw [mm_l2, upl_at, nb_or y (by omega) p16 hq]
          by_cases c : q = p
          · subst c
            rw [if_pos rfl, px, if_pos ⟨np'.symm.trans y, by omega, fs⟩]
          · have hne : q ^^^ T ≠ s := fun w => c (by rw [hp, ← w, Nat.xor_assoc, Nat.xor_self, Nat.xor_zero])
            rw [if_neg c, hN q hq]
            by_cases c2 : nb (M.2 64 R) q = 0 ∧ q ^^^ T < s ∧ f (q ^^^ T) = true
            · rw [if_pos c2, if_pos ⟨c2.1, by have := c2.2.1; omega, c2.2.2⟩]
            · rw [if_neg c2, if_neg (fun w => c2 ⟨w.1, by have := w.2.1; omega, w.2.2⟩)]
set_option maxRecDepth 100000 in
theorem ct_spT {E : Nat} {f : Nat → Bool} (hk : symK k) (hE : E < 15) : am_M (d + 4) false nm_X2_spreadTo [aR 57, aI (nI (kK k)), aI (nI (stA f 16)), aI (nI E)] M (fun r N => r = .inl none ∧ sdF (rkK k) (nI (kK (un4 k))) M N ∧ ∀ p, p < 16 → nb (N.2 64 (rkK k)) p = if nb (M.2 64 (rkK k)) p = 0 ∧ f (p ^^^ sgN k) = true then E + 1 else nb (M.2 64 (rkK k)) p) := by
  have hr := rkK_l hk
  have hs := sgN_l hk.1
  refine ⟨rfl, rfl, rfl, fun X hX => am_run hX 2 _ _ _ _ ?_⟩
  conv => whnf
  refine am_c1 (ct_rkO (d := d) hk) ?_
  refine am_run hX 3 _ _ _ _ ?_
  conv => whnf
  refine am_c1 (ct_sgO (d := d + 2) hk.1) ?_
  refine am_run hX 10 _ _ _ _ ?_
  conv => whnf
  refine ⟨vp_in_nI hr (by decide), ?_⟩
  rw [nI_clamp (n := rkK k) (by omega), un_k hk.1]
  conv => whnf
  refine sd_l (M := M) (R := rkK k) (T := sgN k) (v := nI (kK (un4 k))) (f := f) hX hr hs hE (stA_l f 16) (fun s h => stA_t f 16 h) (fun N a b => ⟨rfl, a, fun p hp => ?_⟩) 16 0 _ _ (by omega) ⟨fun j hj => mm_ne _ _ _ _ hj, by rw [mm_i1], fun _ _ => rfl, fun _ _ => rfl⟩ (fun p hp => ?_)
  · rw [b p hp]
    by_cases c : nb (M.2 64 (rkK k)) p = 0 ∧ f (p ^^^ sgN k) = true
    · rw [if_pos c, if_pos ⟨c.1, x_16 hp hs, c.2⟩]
    · rw [if_neg c, if_neg (fun w => c ⟨w.1, w.2.2⟩)]
  · rw [if_neg (fun w => absurd w.2.1 (Nat.not_lt_zero _))]
    rfl
end SHV
