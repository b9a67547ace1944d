/-! THE INVARIANT is kept: DENSITIES; TABLES as they lie in memory -/
section IVL
variable {KI : List Nat} {KO : List (Nat × Nat)} {KL : List Nat} {M N K : mm_M}
/-- rows in memory are one thing -/
theorem tbg_u {n : Nat} {A B : Nat → RW} (h : iTBD M) (g : tb_g M n A B) : nmG n A := by
  obtain ⟨m, A', B', t, hn⟩ := h
  have n20 := g.1
  have m20 := t.1
  have e : m = n := (nI_eq (by omega) (by omega)).mp (t.2.1.symm.trans g.2.1)
  subst e
  refine fun y hy => hn y (gG_cg (fun j hj => ?_) hy)
  obtain ⟨a1, _, a2, _⟩ := g.2.2.2.1 j hj
  obtain ⟨b1, _, b2, _⟩ := t.2.2.2.1 j hj
  have p : 2 ^ m ≤ 2 ^ 20 := Nat.pow_le_pow_right (by decide) n20
  have q1 := a1.1
  have q2 := a1.2.1
  have q3 := a1.2.2
  have r1 := b1.1
  have r2 := b1.2.1
  have r3 := b1.2.2
  exact Prod.ext ((nI_eq (by omega) (by omega)).mp (a2.1.symm.trans b2.1)) (Prod.ext ((nI_eq (by omega) (by omega)).mp (a2.2.1.symm.trans b2.2.1)) ((nI_eq (by omega) (by omega)).mp (a2.2.2.symm.trans b2.2.2)))
theorem rt_u {c i : Nat} {x y : R4} (hx : bd x) (hy : bd y) (h : rt_at M c i x) (g : rt_at M c i y) : x = y := by
  obtain ⟨h1, h2, h3, h4⟩ := h
  obtain ⟨g1, g2, g3, g4⟩ := g
  unfold bd at hx hy
  exact Prod.ext ((lI_eq (by omega) (by omega) (by omega) (by omega)).mp (h1.symm.trans g1)) (Prod.ext ((lI_eq (by omega) (by omega) (by omega) (by omega)).mp (h2.symm.trans g2)) (Prod.ext ((lI_eq (by omega) (by omega) (by omega) (by omega)).mp (h3.symm.trans g3)) ((lI_eq (by omega) (by omega) (by omega) (by omega)).mp (h4.symm.trans g4))))
theorem de_bdx {w k : Nat} {xs : Nat → R4} (h : de_d M w k xs) {c : Nat} (hc : c < 2 ^ (2 * w)) : bd (xs c) := by
  obtain ⟨_, _, h3, _, _, _, _, _, _, _, _, h12⟩ := h
  have p := sI_at (F := fun c => nrm (xs c)) (2 ^ (2 * w)) (fun c _ => nrm0 (xs c)) _ hc
  have q : (2 : Int) ^ k ≤ 2 ^ 120 := by
    have := Nat.pow_le_pow_right (n := 2) (by decide) h3
    exact_mod_cast this
  have p : nrm (xs c) ≤ sI (fun c => nrm (xs c)) (2 ^ (2 * w)) := p
  exact nrm_bd2 (by omega)
/-- a DENSITY in memory is one thing -/
theorem de_u {w k : Nat} {xs : Nat → R4} (h : iDED M) (g : de_d M w k xs) : de_k M k ∧ lgD w k xs := by
  have g3 := g.2.2.1
  have g2 := g.2.1
  have g1 := g.1
  rcases h with ⟨z, _⟩ | ⟨w', k', ys, d, hk, hl⟩
  · exfalso
    have e := g.2.2.2.1
    rw [z] at e
    have := (nI_eq (a := 0) (b := w) (by decide) (by omega)).mp e
    omega
  · have d3 := d.2.2.1
    have d2 := d.2.1
    have ew : w' = w := (nI_eq (by omega) (by omega)).mp (d.2.2.2.1.symm.trans g.2.2.2.1)
    subst ew
    have ek : k' = k := (nI_eq (by omega) (by omega)).mp (d.2.2.2.2.2.2.1.symm.trans g.2.2.2.2.2.2.1)
    subst ek
    exact ⟨hk, lgD_e hl fun c hc => rt_u (de_bdx g hc) (de_bdx d hc) (g.2.2.2.2.2.2.2.2.2.1 c hc) (d.2.2.2.2.2.2.2.2.2.1 c hc)⟩
theorem de_ns {w s : Nat} (w1 : 1 ≤ w) (w3 : w ≤ 3) (hs : s < 2 ^ w) : de_d (de_2 (de_1 M w s) w s) w 0 (bsD w s) := by
  have h8 := w8 w3
  have h64' : 2 ^ (2 * w) ≤ 64 := by
    have := Nat.pow_le_pow_right (n := 2) (by decide) (show 2 * w ≤ 6 by omega)
    omega
  have ss := ij64 w3 hs hs
  have m107 : ∀ p, p < 256 → (de_2 (de_1 M w s) w s).2 107 p = if p = 4 * (s + 2 ^ w * s) then 1 else 0 := fun p hp => by
    have : (de_2 (de_1 M w s) w s).2 107 p = vp_updL (fun j => if j < 256 then 0 else M.2 107 j) (4 * (s + 2 ^ w * s)) 1 p := by
      simp [de_2, de_1, on105, mm_i, mm_l]
    rw [this]
    unfold vp_updL
    by_cases e : p = 4 * (s + 2 ^ w * s)
    · rw [if_pos e, if_pos e]
    · rw [if_neg e, if_neg e]
      dsimp only
      rw [if_pos hp]
  have m162 : ∀ p, p < 320 → (de_2 (de_1 M w s) w s).2 162 p = if p = 5 * (8 * s + s) then 1 else 0 := fun p hp => by
    have : (de_2 (de_1 M w s) w s).2 162 p = vp_updL (fun j => if j < 320 then 0 else M.2 162 j) (5 * (8 * s + s)) 1 p := by
      simp [de_2, de_1, on105, mm_i, mm_l]
    rw [this]
    unfold vp_updL
    by_cases e : p = 5 * (8 * s + s)
    · rw [if_pos e, if_pos e]
    · rw [if_neg e, if_neg e]
      dsimp only
      rw [if_pos hp]
  refine ⟨w1, w3, Nat.zero_le _, by simp [de_2, de_1, on105, mm_i, mm_l, upd], by simp [de_2, mm_i, mm_l, upd], by simp [de_2, de_1, on105, mm_i, mm_l, upd], by simp [de_2, de_1, on105, mm_i, mm_l, upd]; rfl, by simp [de_2, de_1, on105, mm_i, mm_l, upd], by simp [de_2, de_1, on105, mm_i, mm_l, upd], fun c hc => ?_, fun i j hi hj => ?_, lgD_s (lg_new hs)⟩
  · generalize de_2 (de_1 M w s) w s = M' at m107
    unfold bsD
    by_cases e : c = s + 2 ^ w * s
    · rw [if_pos e, e]
      refine ⟨?_, ?_, ?_, ?_⟩
      · rw [m107 _ (by omega), if_pos rfl]; rfl
      · rw [m107 _ (by omega), if_neg (by omega)]; rfl
      · rw [m107 _ (by omega), if_neg (by omega)]; rfl
      · rw [m107 _ (by omega), if_neg (by omega)]; rfl
    · rw [if_neg e]
      refine ⟨?_, ?_, ?_, ?_⟩
      · rw [m107 _ (by omega), if_neg (by omega)]; rfl
      · rw [m107 _ (by omega), if_neg (by omega)]; rfl
      · rw [m107 _ (by omega), if_neg (by omega)]; rfl
      · rw [m107 _ (by omega), if_neg (by omega)]; rfl
  · generalize de_2 (de_1 M w s) w s = M' at m162
    unfold bsD
    have ie := ij_e (j := j) hi hs
    by_cases e : i = s ∧ j = s
    · obtain ⟨rfl, rfl⟩ := e
      rw [if_pos rfl]
      refine ⟨?_, ?_, ?_, ?_, ?_⟩
      · rw [m162 _ (by omega), if_pos rfl]; rfl
      · rw [m162 _ (by omega), if_neg (by omega)]; rfl
      · rw [m162 _ (by omega), if_neg (by omega)]; rfl
      · rw [m162 _ (by omega), if_neg (by omega)]; rfl
      · rw [m162 _ (by omega), if_neg (by omega)]; rfl
    · rw [if_neg (fun q => e (ie.mp q))]
      have e2 : ¬ 8 * i + j = 8 * s + s := by omega
      refine ⟨?_, ?_, ?_, ?_, ?_⟩
      · rw [m162 _ (by omega), if_neg (by omega)]; rfl
      · rw [m162 _ (by omega), if_neg (by omega)]; rfl
      · rw [m162 _ (by omega), if_neg (by omega)]; rfl
      · rw [m162 _ (by omega), if_neg (by omega)]; rfl
      · rw [m162 _ (by omega), if_neg (by omega)]; rfl
theorem jv_density {w s : Nat} (w1 : 1 ≤ w) (w3 : w ≤ 3) (hs : s < 2 ^ w) (h : IV M) : IV (de_2 (de_1 M w s) w s) := by
  have F : ivF [] [(104, 1), (104, 2), (104, 3), (105, 2), (105, 3), (108, 0), (108, 88), (108, 89), (108, 90)] [107, 162] M (de_2 (de_1 M w s) w s) := by
    refine ivF_t (ivF_g (k := 104) (g := upd (upd (upd (M.1 104) 1 (nI w)) 2 0) 3 0) (fun y hy => by rw [up_ne (ko_n hy rfl), up_ne (ko_n hy rfl), up_ne (ko_n hy rfl)])) (ivF_t (ivF_g (k := 105) (fun y hy => ?_)) (ivF_t (ivF_l (k := 107) rfl) (ivF_t (ivF_g (k := 108) (fun y hy => ?_)) (ivF_l (k := 162) rfl))))
    · rw [up_ne (ko_n hy rfl), up_ne (ko_n hy rfl)]
    · rw [up_ne (ko_n hy rfl), up_ne (ko_n hy rfl), up_ne (ko_n hy rfl), up_ne (ko_n hy rfl)]
      rfl
  refine IV_k h F (Or.inl rfl) (Or.inl rfl) (Or.inl rfl) (Or.inl rfl) (Or.inl rfl) (Or.inl rfl) (Or.inl rfl) (Or.inl rfl) (Or.inl rfl) (Or.inl rfl) (Or.inl rfl) (Or.inl rfl) (Or.inl rfl) (Or.inl rfl) (Or.inl rfl) (Or.inl rfl) (Or.inr ?_) (Or.inl rfl) (Or.inl rfl) (Or.inl rfl) (Or.inl rfl) (Or.inl rfl)
  · exact Or.inr ⟨w, 0, _, de_ns w1 w3 hs, ⟨0, 0, by decide, by decide, by simp [de_2, de_1, on105, mm_i, mm_l, upd]; rfl, by simp [de_2, de_1, on105, mm_i, mm_l, upd]; rfl, Nat.zero_le _⟩, lg_new hs⟩

theorem jv_spoil {W K r y k b : Nat} {x : Nat → R4} (h0 : de_d M W K x) (hr : r < W) (hy : y < 4) (hk : k < 17) (h1 : soG (spM M (2 ^ (2 * W)) b (K + spQ y) (spN W r y k x)) N b) (h2 : de_d N W (K + spQ y) (spN W r y k x)) (h3 : de_k N (K + spQ y)) (h : IV M) : IV (N) := by
  have F : ivF [] [(104, 3), (105, 3), (108, 0), (108, 90)] [107, 118, 119, 162, 163] M (N) := by
    have f1 : ivF [] [(104, 3), (105, 3), (108, 0), (108, 90)] [107, 118, 119, 162, 163] M (spM M (2 ^ (2 * W)) b (K + spQ y) (spN W r y k x)) := ivF_t (ivF_u (k := 104) (y := 3) rfl) (ivF_t (ivF_l (k := 107) rfl) (ivF_g (k := 105) (fun y hy => by rw [up_ne (ko_n hy rfl)]; rfl)))
    refine ivF_t f1 ⟨fun q z _ b => ?_, fun q a => h1.2.2.2.2 q (ki_n a rfl) (ki_n a rfl) (ki_n a rfl) (ki_n a rfl)⟩
    by_cases e : q = 108
    · subst e
      exact h1.2.1 z (ko_n b rfl) (ko_n b rfl)
    · rw [h1.1 q e]
  refine IV_k h F (Or.inl rfl) (Or.inl rfl) (Or.inl rfl) (Or.inl rfl) (Or.inl rfl) (Or.inl rfl) (Or.inl rfl) (Or.inl rfl) (Or.inl rfl) (Or.inl rfl) (Or.inl rfl) (Or.inl rfl) (Or.inl rfl) (Or.inl rfl) (Or.inl rfl) (Or.inl rfl) (Or.inr ?_) (Or.inl rfl) (Or.inl rfl) (Or.inl rfl) (Or.inl rfl) (Or.inl rfl)
  · exact Or.inr ⟨W, _, _, h2, h3, lg_sp h0.2.1 hr hy hk (de_u h.2.2.2.2.2.2.2.2.2.2.2.2.2.2.2.2.1 h0).2⟩

theorem jv_mix {W K a : Nat} {y : Nat → R4} {x : bk_X} (h0 : de_d M W K y) (ho : ogd W x) (h1 : mzF (mxM M (2 ^ (2 * W)) (mxA x a) (mxK x K) (mxN W x y)) N (nI (mxA x a))) (h2 : de_0 N W (mxK x K) (mxN W x y)) (h3 : de_k N (mxK x K)) (h : IV M) : IV (N) := by
  have F : ivF [] [(104, 2), (105, 3), (108, 0), (108, 74), (108, 89)] [107, 118, 119, 152, 161, 162, 163] M (N) := by
    have f1 : ivF [] [(104, 2), (105, 3), (108, 0), (108, 74), (108, 89)] [107, 118, 119, 152, 161, 162, 163] M (mxM M (2 ^ (2 * W)) (mxA x a) (mxK x K) (mxN W x y)) := ivF_t (ivF_u (k := 104) (y := 2) rfl) (ivF_t (ivF_g (k := 105) (fun y hy => by rw [up_ne (ko_n hy rfl)]; rfl)) (ivF_l (k := 107) rfl))
    refine ivF_t f1 ⟨fun q z _ b => ?_, fun q a => h1.2.2.2.2.2 q (ki_n a rfl) (ki_n a rfl) (ki_n a rfl) (ki_n a rfl) (ki_n a rfl) (ki_n a rfl)⟩
    by_cases e : q = 108
    · subst e
      exact h1.2.1 z (ko_n b rfl) (ko_n b rfl) (ko_n b rfl)
    · rw [h1.1 q e]
  refine IV_k h F (Or.inl rfl) (Or.inr ?_) (Or.inl rfl) (Or.inl rfl) (Or.inl rfl) (Or.inl rfl) (Or.inl rfl) (Or.inl rfl) (Or.inl rfl) (Or.inl rfl) (Or.inl rfl) (Or.inl rfl) (Or.inl rfl) (Or.inl rfl) (Or.inl rfl) (Or.inl rfl) (Or.inr ?_) (Or.inl rfl) (Or.inl rfl) (Or.inl rfl) (Or.inl rfl) (Or.inl rfl)
  · rcases h1.2.2.2.2.1 with q | q
    · have F' : ivF [] [(104, 2), (105, 3), (108, 0), (108, 89)] [107, 118, 119, 152, 161, 162, 163] M N := by
        have f1 : ivF [] [(104, 2), (105, 3), (108, 0), (108, 89)] [107, 118, 119, 152, 161, 162, 163] M (mxM M (2 ^ (2 * W)) (mxA x a) (mxK x K) (mxN W x y)) := ivF_t (ivF_u (k := 104) (y := 2) rfl) (ivF_t (ivF_g (k := 105) (fun y hy => by rw [up_ne (ko_n hy rfl)]; rfl)) (ivF_l (k := 107) rfl))
        refine ivF_t f1 ⟨fun c z _ b => ?_, fun c a => h1.2.2.2.2.2 c (ki_n a rfl) (ki_n a rfl) (ki_n a rfl) (ki_n a rfl) (ki_n a rfl) (ki_n a rfl)⟩
        by_cases e : c = 108
        · subst e
          by_cases e7 : z = 74
          · rw [e7]
            exact q
          · exact h1.2.1 z (ko_n b rfl) e7 (ko_n b rfl)
        · rw [h1.1 c e]
      exact iBRK h.2.1 F' rfl
    · have g1 : ∀ c, c ≠ 108 → c ≠ 104 → c ≠ 105 → N.1 c = M.1 c := fun c a b d => by
        rw [h1.1 c a]
        show (mm_i (mm_i M 104 _) 105 _).1 c = M.1 c
        rw [mm_ne _ _ _ _ d, mm_ne _ _ _ _ b]
      have g8 : ∀ z, z ≠ 0 → z ≠ 74 → z ≠ 89 → N.1 108 z = M.1 108 z := fun z a b c => by
        rw [h1.2.1 z a b c]
        rfl
      have gl : ∀ c, c = 17 ∨ c = 20 ∨ c = 108 ∨ c = 150 → N.2 c = M.2 c := fun c hc => by
        rw [h1.2.2.2.2.2 c (by omega) (by omega) (by omega) (by omega) (by omega) (by omega)]
        exact mm_lne _ _ _ _ (by omega)
      exact iBR_0 h.2.1 (g1 9 (by decide) (by decide) (by decide)) (fun c a b => g1 c (by omega) (by omega) (by omega)) (fun c a b => g1 c (by omega) (by omega) (by omega)) (g8 6 (by decide) (by decide) (by decide)) (fun z a b => g8 z (by omega) (by omega) (by omega)) q (gl 17 (by omega)) (gl 20 (by omega)) (gl 108 (by omega)) (fun j _ => by rw [gl 150 (by omega)])
  · have l := lg_mx h0.2.1 ho (de_u h.2.2.2.2.2.2.2.2.2.2.2.2.2.2.2.2.1 h0).2
    exact Or.inr ⟨W, _, _, de_0d h2 (lgD_s l), h3, l⟩

theorem jv_purity {v : Int64} {q o f s : Nat → Int64} (h0 : puM M N v) (h : IV M) : IV (th0 (w4 N q o f s)) := by
  have F : ivF [] [(105, 2), (105, 3), (108, 0)] [107, 106, 202, 152, 119, 118, 153] M (th0 (w4 N q o f s)) := by
    obtain ⟨w, k, x, g, hd, rfl⟩ := h0
    refine ivF_t (ivF_g (k := 105) (g := upd (upd (M.1 105) 2 (nI (2 ^ (2 * w)))) 3 (nI (lowA (2 ^ (2 * w)) k x).1)) (fun y hy => by rw [up_ne (ko_n hy rfl), up_ne (ko_n hy rfl)])) (ivF_t (ivF_l (k := 107) rfl) (ivF_t (ivF_l (k := 106) rfl) (ivF_t (ivF_o rfl) (ivF_t (ivF_w4 rfl rfl rfl rfl) (ivF_0 rfl)))))
  refine IV_k h F (Or.inl rfl) (Or.inl rfl) (Or.inl rfl) (Or.inl rfl) (Or.inl rfl) (Or.inl rfl) (Or.inl rfl) (Or.inl rfl) (Or.inl rfl) (Or.inl rfl) (Or.inl rfl) (Or.inl rfl) (Or.inl rfl) (Or.inl rfl) (Or.inl rfl) (Or.inl rfl) (Or.inr ?_) (Or.inl rfl) (Or.inl rfl) (Or.inl rfl) (Or.inl rfl) (Or.inl rfl)
  · obtain ⟨w, k, x, g, hd, rfl⟩ := h0
    obtain ⟨⟨a, b, a24, b6, ka, kb, kK⟩, hl⟩ := de_u h.2.2.2.2.2.2.2.2.2.2.2.2.2.2.2.2.1 hd
    have l := (low_d hd).1
    have D := lwM_d hd g
    have lv := (low_v (2 ^ (2 * w)) k x).1
    exact Or.inr ⟨w, _, _, D, ⟨a, b, a24, b6, ka, kb, by omega⟩, lg_low l hl (fun c hc => (lv c hc).2)⟩

end IVL
