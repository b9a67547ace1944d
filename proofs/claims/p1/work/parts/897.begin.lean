/-! the pair begin: a RUN begins -/
section BGN
variable {d : Nat} {M : mm_M}
set_option maxRecDepth 100000 in
theorem bs_l {P : am_Q} {X : am_X} {w s : Nat} (hX : am_K d false nm_X12_startState P X) (hK : ∀ l3, X 27 [some (aR 108), some (aI (nI w)), some (aI (nI s)), l3] [] (mm_l M 150 (fun j => if j < 1280 then 0 else M.2 150 j))) : ∀ (m i : Nat), i + m = 1280 → X 7 [some (aR 108), some (aI (nI w)), some (aI (nI s)), some (aI (nI i))] [] (mm_l M 150 (fun j => if j < i then 0 else M.2 150 j)) := by
  intro m
  induction m with
  | zero =>
    intro i hi
    have hi : i = 1280 := by omega
    subst hi
    refine am_run hX 3 _ _ _ _ ?_
    conv => whnf
    exact ⟨fun _ => hK _, fun c => absurd (by decide) c⟩
  | succ m ih =>
    intro i hi
    refine am_run hX 3 _ _ _ _ ?_
    conv => whnf
    refine ⟨fun c => absurd c (nI_ge (a := i) (b := 1280) (by omega) (by decide)), fun _ => ?_⟩
    refine am_run hX 7 _ _ _ _ ?_
    conv => whnf
    refine ⟨vp_in_nI (by show _ < 1280; omega) (by decide), ?_⟩
    conv => whnf
    rw [nI_clamp (n := i) (by omega), nI_1, mm_l2, mm_ll]
    have e : vp_updL (fun j => if j < i then 0 else M.2 150 j) i 0 = fun j => if j < i + 1 then 0 else M.2 150 j := by
      funext j
      unfold vp_updL
      by_cases h : j = i
      · rw [if_pos h, if_pos (by omega)]
      · rw [if_neg h]
        dsimp only
        by_cases h2 : j < i
        · rw [if_pos h2, if_pos (by omega)]
        · rw [if_neg h2, if_neg (by omega)]
    rw [e]
    exact ih (i + 1) (by omega)
/-- the reference's STATE begins at s -/
def bs_2 (M : mm_M) (w s : Nat) : mm_M := mm_l (mm_i M 108 (upd (upd (M.1 108) 71 (nI w)) 74 0)) 150 (vp_updL (fun j => if j < 1280 then 0 else M.2 150 j) (5 * s) 1)
set_option maxRecDepth 100000 in
theorem ct_startS {w s : Nat} (hs : s < 256) : am_M (d + 1) false nm_X12_startState [aR 108, aI (nI w), aI (nI s)] M (am_q0 (bs_2 M w s)) := by
  refine ⟨rfl, rfl, rfl, fun X hX => am_run hX 5 _ _ _ _ ?_⟩
  conv => whnf
  have key := bs_l (M := mm_i M 108 (upd (M.1 108) 71 (nI w))) (w := w) (s := s) hX (fun l3 => ?_) 1280 0 (by omega)
  · have e : (fun j => if j < 0 then 0 else (mm_i M 108 (upd (M.1 108) 71 (nI w))).2 150 j) = (mm_i M 108 (upd (M.1 108) 71 (nI w))).2 150 := by
      funext j
      rw [if_neg (by omega)]
    rw [e, mm_lz] at key
    exact key
  · refine am_run hX 20 _ _ _ _ ?_
    conv => whnf
    rw [show (5 : Int32) = nI 5 from rfl, nI_mul]
    refine ⟨vp_in_nI (by show _ < 1280; omega) (by decide), ?_⟩
    conv => whnf
    rw [nI_clamp (by omega), mm_l2, mm_ll]
    refine ⟨⟨rfl, rfl⟩, trivial, rfl, ?_⟩
    unfold bs_2
    rw [mm_l1, mm_i1]
    show mm_l (mm_i (mm_i M 108 _) 108 _) 150 _ = _
    rw [mm_ii]
    rfl
def bg_1 (M : mm_M) (c w s : Nat) (v : Int64) : mm_M := on18 (mm_l (mm_i M 17 (upd (upd (upd (upd (upd (upd (M.1 17) 5 (nI c)) 6 (nI w)) 7 0) 8 0) 9 0) 10 (-1))) 17 (vp_updL (M.2 17) 11 v)) (2 ^ w) s
def bg_2 (M : mm_M) (c w s : Nat) (v : Int64) : mm_M := bs_2 (mm_l (mm_i M 108 (upd (upd (upd (upd (upd (upd (M.1 108) 0 0) 65 1) 66 (nI c)) 67 0) 68 0) 70 0)) 108 (vp_updL (M.2 108) 69 v)) w s
set_option maxRecDepth 100000 in
theorem bg_x1 {n c W S s : Nat} (h : bk_iv M n) (hc : c < n) (hS : bk_c M c W S) (hs : s < 2 ^ W) (v : Int64) : am_M (d + 4) false nm_X11_begin [aR 0, aI (nI c), aI (nI s), aJ v] M (am_q1 (aI 1) (bg_1 M c W s v)) := by
  have hn := h.1
  have hW := hS.2.1
  have h8 := w256 hW
  refine ⟨rfl, rfl, rfl, fun X hX => am_run hX 60 _ _ _ _ ?_⟩
  conv => whnf
  refine am_c1 (bk_has (nI c)) ?_
  rw [h.2.1, if_neg (bk_yes h.1 hc)]
  conv => whnf
  refine ⟨fun c => absurd c (by decide), fun _ => ?_⟩
  conv => whnf
  refine ⟨fun c => absurd c (nI_pos (by omega)), fun _ => ?_⟩
  conv => whnf
  refine ⟨vp_in_nI (by show c < 20; omega) (by decide), ?_⟩
  conv => whnf
  rw [nI_clamp (by omega), hS.2.2.2.1, sh2 W (by omega)]
  refine ⟨fun _ => ?_, fun c => absurd (nI_lt hs (by omega)) c⟩
  conv => whnf
  refine ⟨vp_in_nI (by show c < 20; omega) (by decide), ?_⟩
  conv => whnf
  rw [nI_clamp (by omega), hS.2.2.2.1]
  refine am_inl ⟨rfl, rfl, rfl, fun X hX => am_run hX 60 _ _ _ _ ?_⟩
  conv => whnf
  rw [sh2 W (by omega)]
  refine am_c0 (ct_one18 (d := d) (c := 2 ^ W) (a := s) (by omega)) ?_
  conv => whnf
  refine ⟨trivial, _, rfl, ?_⟩
  conv => whnf
  refine ⟨rfl, rfl, ?_⟩
  unfold bg_1
  congr 1
  simp only [mm_i1, mm_ii, mm_l1]
  show mm_l (mm_i (mm_i M 17 _) 17 _) 17 _ = _
  rw [mm_ii]
  rfl
theorem wid108 {c W S : Nat} {f f2 : Nat → Int32} {g : Nat → Int64} (h : bk_c M c W S) : (mm_i (mm_l (mm_i M 108 f) 108 g) 108 f2).1 110 c = nI W := h.2.2.2.2.1
set_option maxRecDepth 100000 in
theorem bg_m1 {n c W S s : Nat} (h : bk_iv M n) (hc : c < n) (hS : bk_c M c W S) (hs : s < 2 ^ W) (v : Int64) : am_M (d + 2) false nm_X12_begin [aR 108, aI (nI c), aI (nI s), aJ v] M (am_q1 (aI 1) (bg_2 M c W s v)) := by
  have hn := h.1
  have hW := hS.2.1
  have h8 := w256 hW
  refine ⟨rfl, rfl, rfl, fun X hX => am_run hX 80 _ _ _ _ ?_⟩
  conv => whnf
  refine am_c1 (bk_isc (nI c)) ?_
  rw [show (mm_i M 108 (upd (M.1 108) 0 0)).1 108 6 = nI n from h.2.2.1, if_neg (bk_yes h.1 hc)]
  conv => whnf
  refine ⟨fun c => absurd c (by decide), fun _ => ?_⟩
  conv => whnf
  refine ⟨fun c => absurd c (nI_pos (by omega)), fun _ => ?_⟩
  conv => whnf
  refine ⟨vp_in_nI (Nat.lt_of_lt_of_le (show c < 20 by omega) (by decide)) (by decide), ?_⟩
  conv => whnf
  rw [nI_clamp (by omega), show (mm_i M 108 (upd (M.1 108) 0 0)).1 110 c = nI W from hS.2.2.2.2.1, sh2 W (by omega)]
  refine ⟨fun _ => ?_, fun c => absurd (nI_lt hs (by omega)) c⟩
  conv => whnf
  refine ⟨⟨rfl, rfl⟩, ?_⟩
  conv => whnf
  refine ⟨vp_in_nI (Nat.lt_of_lt_of_le (show c < 20 by omega) (by decide)) (by decide), ?_⟩
  conv => whnf
  rw [nI_clamp (by omega)]
  simp only [mm_i1, mm_ii, mm_l1]
  rw [wid108 hS]
  refine am_c0 (ct_startS (d := d) (w := W) (s := s) (by omega)) ?_
  conv => whnf
  refine ⟨rfl, rfl, ?_⟩
  unfold bg_2
  congr 1
  show mm_l (mm_i (mm_i M 108 _) 108 _) 108 _ = _
  rw [mm_ii]
  rfl
def bg_no (M : mm_M) (n : Nat) (p q : Int32) : Prop := (p < 0 ∨ nI n ≤ p) ∨ ∃ c W S, c < n ∧ p = nI c ∧ bk_c M c W S ∧ (q < 0 ∨ nI (2 ^ W) ≤ q)
theorem bg_sp {n : Nat} (h : bk_iv M n) (p q : Int32) : bg_no M n p q ∨ ∃ c W S s, c < n ∧ p = nI c ∧ bk_c M c W S ∧ q = nI s ∧ s < 2 ^ W := by
  rcases bk_no (p := p) h.1 with hp | ⟨c, hc, rfl⟩
  · exact Or.inl (Or.inl hp)
  · obtain ⟨W, S, hS⟩ := h.2.2.2 c hc
    have h8 := w256 hS.2.1
    by_cases h2 : q < 0 ∨ nI (2 ^ W) ≤ q
    · exact Or.inl (Or.inr ⟨c, W, S, hc, rfl, hS, h2⟩)
    · have b0 : ¬ q < 0 := fun c => h2 (Or.inl c)
      obtain ⟨s, hs, rfl⟩ := nI_of b0
      refine Or.inr ⟨c, W, S, s, hc, rfl, hS, rfl, ?_⟩
      apply Decidable.byContradiction
      intro hc
      exact h2 (Or.inr (nI_le (by omega) hs))
set_option maxRecDepth 100000 in
theorem bg_x0 {n : Nat} {p q : Int32} {v : Int64} (h : bk_iv M n) (hp : bg_no M n p q) : am_M (d + 2) false nm_X11_begin [aR 0, aI p, aI q, aJ v] M (am_q1 (aI 0) M) := by
  refine ⟨rfl, rfl, rfl, fun X hX => am_run hX 60 _ _ _ _ ?_⟩
  conv => whnf
  refine am_c1 (bk_has p) ?_
  rw [h.2.1]
  rcases hp with hp | ⟨c, W, S, hc, rfl, hS, hq⟩
  · rw [if_pos hp]
    conv => whnf
    refine ⟨fun _ => ?_, fun c => absurd rfl c⟩
    conv => whnf
    exact ⟨rfl, rfl, rfl⟩
  · have hn := h.1
    have hW := hS.2.1
    rw [if_neg (bk_yes h.1 hc)]
    conv => whnf
    refine ⟨fun c => absurd c (by decide), fun _ => ?_⟩
    conv => whnf
    refine ⟨fun _ => ?_, fun hq0 => ?_⟩
    · conv => whnf
      exact ⟨rfl, rfl, rfl⟩
    · conv => whnf
      refine ⟨vp_in_nI (by show c < 20; omega) (by decide), ?_⟩
      conv => whnf
      rw [nI_clamp (by omega), hS.2.2.2.1, sh2 W (by omega)]
      refine ⟨fun c4 => absurd (hq.resolve_left hq0) (Int32.not_le.mpr c4), fun c4 => ?_⟩
      conv => whnf
      exact ⟨rfl, rfl, rfl⟩
set_option maxRecDepth 100000 in
theorem bg_m0 {n : Nat} {p q : Int32} {v : Int64} (h : bk_iv M n) (hp : bg_no M n p q) : am_M (d + 2) false nm_X12_begin [aR 108, aI p, aI q, aJ v] M (am_q1 (aI 0) (th0 M)) := by
  refine ⟨rfl, rfl, rfl, fun X hX => am_run hX 60 _ _ _ _ ?_⟩
  conv => whnf
  refine am_c1 (bk_isc p) ?_
  rw [show (mm_i M 108 (upd (M.1 108) 0 0)).1 108 6 = nI n from h.2.2.1]
  rcases hp with hp | ⟨c, W, S, hc, rfl, hS, hq⟩
  · rw [if_pos hp]
    conv => whnf
    refine ⟨fun _ => ?_, fun c => absurd rfl c⟩
    conv => whnf
    exact ⟨rfl, rfl, rfl⟩
  · have hn := h.1
    have hW := hS.2.1
    rw [if_neg (bk_yes h.1 hc)]
    conv => whnf
    refine ⟨fun c => absurd c (by decide), fun _ => ?_⟩
    conv => whnf
    refine ⟨fun _ => ?_, fun hq0 => ?_⟩
    · conv => whnf
      exact ⟨rfl, rfl, rfl⟩
    · conv => whnf
      refine ⟨vp_in_nI (Nat.lt_of_lt_of_le (show c < 20 by omega) (by decide)) (by decide), ?_⟩
      conv => whnf
      rw [nI_clamp (by omega), show (mm_i M 108 (upd (M.1 108) 0 0)).1 110 c = nI W from hS.2.2.2.2.1, sh2 W (by omega)]
      refine ⟨fun c4 => absurd (hq.resolve_left hq0) (Int32.not_le.mpr c4), fun c4 => ?_⟩
      conv => whnf
      exact ⟨rfl, rfl, rfl⟩
/-- what stands behind begin -/
theorem bg_start {c w s : Nat} {v : Int64} (hc : c < 20) (w1 : 1 ≤ w) (w8 : w ≤ 8) (hs : s < 2 ^ w) : ru_s (bg_2 (bg_1 M c w s v) c w s v) c w 0 := by
  have h8 := w256 w8
  refine ⟨hc, w1, w8, Nat.zero_le _, by simp [bg_2, bg_1, bs_2, on18, mm_i, mm_l, upd], by simp [bg_2, bg_1, bs_2, on18, mm_i, mm_l, upd], by simp [bg_2, bg_1, bs_2, on18, mm_i, mm_l, upd], by simp [bg_2, bg_1, bs_2, on18, mm_i, mm_l, upd], by simp [bg_2, bg_1, bs_2, on18, mm_i, mm_l, upd], by simp [bg_2, bg_1, bs_2, on18, mm_i, mm_l, upd], by simp [bg_2, bg_1, bs_2, on18, mm_i, mm_l, upd]; rfl, fun j hj => ?_⟩
  have m20 : ∀ p, p < 1024 → (bg_2 (bg_1 M c w s v) c w s v).2 20 p = if p = 4 * s then 1 else 0 := fun p hp => by
    have : (bg_2 (bg_1 M c w s v) c w s v).2 20 p = vp_updL (fun j => if j < 1024 then 0 else M.2 20 j) (4 * s) 1 p := by
      simp [bg_2, bg_1, bs_2, on18, mm_i, mm_l]
    rw [this]
    unfold vp_updL
    by_cases e : p = 4 * s
    · rw [if_pos e, if_pos e]
    · rw [if_neg e, if_neg e]
      dsimp only
      rw [if_pos hp]
  have m150 : ∀ p, p < 1280 → (bg_2 (bg_1 M c w s v) c w s v).2 150 p = if p = 5 * s then 1 else 0 := fun p hp => by
    have : (bg_2 (bg_1 M c w s v) c w s v).2 150 p = vp_updL (fun j => if j < 1280 then 0 else M.2 150 j) (5 * s) 1 p := by
      simp [bg_2, bg_1, bs_2, on18, mm_i, mm_l]
    rw [this]
    unfold vp_updL
    by_cases e : p = 5 * s
    · rw [if_pos e, if_pos e]
    · rw [if_neg e, if_neg e]
      dsimp only
      rw [if_pos hp]
  generalize bg_2 (bg_1 M c w s v) c w s v = M' at m20 m150
  by_cases e : j = s
  · subst e
    refine ⟨(1, 0, 0, 0), bd_1, ⟨?_, ?_, ?_, ?_⟩, ?_, ?_, ?_, ?_, ?_⟩
    · rw [m20 _ (by omega), if_pos rfl]; rfl
    · rw [m20 _ (by omega), if_neg (by omega)]; rfl
    · rw [m20 _ (by omega), if_neg (by omega)]; rfl
    · rw [m20 _ (by omega), if_neg (by omega)]; rfl
    · rw [m150 _ (by omega), if_pos rfl]; rfl
    · rw [m150 _ (by omega), if_neg (by omega)]; rfl
    · rw [m150 _ (by omega), if_neg (by omega)]; rfl
    · rw [m150 _ (by omega), if_neg (by omega)]; rfl
    · rw [m150 _ (by omega), if_neg (by omega)]; rfl
  · refine ⟨(0, 0, 0, 0), bd_z, ⟨?_, ?_, ?_, ?_⟩, ?_, ?_, ?_, ?_, ?_⟩
    · rw [m20 _ (by omega), if_neg (by omega)]; rfl
    · rw [m20 _ (by omega), if_neg (by omega)]; rfl
    · rw [m20 _ (by omega), if_neg (by omega)]; rfl
    · rw [m20 _ (by omega), if_neg (by omega)]; rfl
    · rw [m150 _ (by omega), if_neg (by omega)]; rfl
    · rw [m150 _ (by omega), if_neg (by omega)]; rfl
    · rw [m150 _ (by omega), if_neg (by omega)]; rfl
    · rw [m150 _ (by omega), if_neg (by omega)]; rfl
    · rw [m150 _ (by omega), if_neg (by omega)]; rfl
/-- nothing that begin writes first is the circuits' -/
theorem bk_bg {n c w s : Nat} {v : Int64} (h : bk_iv M n) : bk_iv (bg_1 M c w s v) n := h
theorem bc_bg {i W S c w s : Nat} {v : Int64} (h : bk_c M i W S) : bk_c (bg_1 M c w s v) i W S := h
end BGN
section BGP
variable {ac : Nat → ClassId} {lo : Nat} {ad as : Nat → Nat} {b L : Nat} {xs : Nat → Int32} {hp : mm_M → Nat → xm_H} {I J : mm_M → Prop}
theorem pr_begin (H : mm_L ac lo hp) (h1 : ∀ M, I M → ∃ n, bk_iv M n) (hJ0 : ∀ M, I M → J (th0 M)) (hJ : ∀ M n c w S s v, I M → bk_iv M n → c < n → bk_c M c w S → s < 2 ^ w → J (bg_2 (bg_1 M c w s v) c w s v)) (p1 p2 : Int32) (v : Int64) : la_I ac lo ad as b L xs hp I J nm_X11_begin nm_X12_begin [.int p1, .int p2, .long v] := by
  refine am_la_I (us := [aI p1, aI p2, aJ v]) H fun M hI => ?_
  obtain ⟨n, h⟩ := h1 M hI
  rcases bg_sp h p1 p2 with hx | ⟨c, W, S, s, hc, rfl, hS, rfl, hs⟩
  · refine am_wk (bg_x0 (d := 998) h hx) fun r M1 e => ⟨0, e.1, ?_⟩
    rw [e.2]
    exact am_wk (bg_m0 (d := 998) h hx) fun r M1 e => ⟨e.1, by rw [e.2]; exact hJ0 M hI⟩
  · refine am_wk (bg_x1 (d := 996) h hc hS hs v) fun r M1 e => ⟨1, e.1, ?_⟩
    rw [e.2]
    exact am_wk (bg_m1 (d := 998) (bk_bg h) hc (bc_bg hS) hs v) fun r M1 e => ⟨e.1, by rw [e.2]; exact hJ M n c W S s v hI h hc hS hs⟩
end BGP
