/-! circuit: the reference reads a TEXT, whole -/
section CSG
variable {d : Nat} {M N : mm_M} {T : Nat → Nat} {t W k tl i f : Nat} {c c1 : CX} {s s1 : GS} {k1 tl1 : Nat} {Q Q1 : Nat → Nat × Tr} {Ss : List (Ev × Tr)}
/-- it can read a STATEMENT, STATEMENTS, where no more than n places are left -/
def soA (T : Nat → Nat) (t W n : Nat) : Prop := ∀ (M : mm_M) (c : CX) (s : GS) (k tl : Nat) (Q : Nat → Nat × Tr) (E : Nat), RIv M T t W c s k tl Q → t - cxI c ≤ n → (crC T t (cxI c) ≠ 0 ∨ cxD c ≠ 0) → (crC T t (cxI c) = 93 → cxD c = 0) → 4 * (8 - cxD c) + 10 ≤ E → am_M E false nm_X12_readStatement [aR 108] M (sxR M T t W c s k tl Q)
def ssA (T : Nat → Nat) (t W n : Nat) : Prop := ∀ (M : mm_M) (c : CX) (s : GS) (k tl : Nat) (Q : Nat → Nat × Tr) (E : Nat), RIv M T t W c s k tl Q → t - cxI c ≤ n → cxD c ≠ 0 → 4 * (8 - cxD c) + 11 ≤ E → am_M E false nm_X12_readStatements [aR 108] M (ssR M T t W c s k tl Q)
theorem stN_t {M' N' : mm_M} (h : stD M N T t W c s k tl Q c1 s1 k1 tl1 Q1 Ss) (g : stN N N' T t W c1) : stN M N' T t W c := by
  obtain ⟨g1, p, g2, g3, g4⟩ := g
  obtain ⟨m, hm⟩ := h.2.2.2.2.2.2.1
  exact ⟨rjF_t (rjF_w (by decide) (by decide) h.2.2.2.1) g1, p, PRu_t (PSg_n m hm) g2, g3, g4⟩
set_option maxRecDepth 100000 in
theorem ss_o1 {n : Nat} (hA : soA T t W n) : ssA T t W n := by
  intro M c s k tl Q E hI hn hD hE
  obtain ⟨e, rfl⟩ : ∃ e, E = e + 2 := ⟨E - 2, by omega⟩
  refine ⟨rfl, rfl, rfl, fun X hX => ?_⟩
  have loop : ∀ (m : Nat) (N : mm_M) (c1 : CX) (s1 : GS) (k1 tl1 : Nat) (Q1 : Nat → Nat × Tr) (Ss : List (Ev × Tr)), t - cxI c1 < m → stD M N T t W c s k tl Q c1 s1 k1 tl1 Q1 Ss → X 0 [some (aR 108)] [] N := by
    intro m
    induction m with
    | zero => intro N c1 s1 k1 tl1 Q1 Ss hm; exact absurd hm (Nat.not_lt_zero _)
    | succ m ih =>
      intro N c1 s1 k1 tl1 Q1 Ss hm hS
      have hR := hS.1
      have c7 := rjX_c (i := cxI c1) hR.1
      have dd := hS.2.2.2.2.2.2.2.1.1
      have di := hS.2.2.2.2.2.2.2.1.2.2.2
      refine am_run hX 2 _ _ _ _ ?_
      conv => whnf
      refine am_c1 (ct_se (d := e) hR.1 hR.2.1) ?_
      have hS2 := stD_q hS
      generalize saM N (crP T t (cxI c1)) = N2 at *
      refine am_run hX 2 _ _ _ _ ?_
      conv => whnf
      by_cases q : crC T t (cxI c1) = 93
      · refine ⟨fun _ => ?_, fun z => absurd (by rw [q]; rfl) z⟩
        refine am_run hX 2 _ _ _ _ ?_
        conv => whnf
        exact ⟨rfl, Or.inl ⟨rfl, c1, s1, k1, tl1, Q1, Ss, hS2, q⟩⟩
      · refine ⟨fun z => absurd ((nI_eq (b := 93) (by omega) (by decide)).mp z) q, fun _ => ?_⟩
        refine am_run hX 2 _ _ _ _ ?_
        conv => whnf
        refine am_cq (hA N2 c1 s1 k1 tl1 Q1 (e + 1) hS2.1 (by omega) (Or.inr (by omega)) (fun z => absurd z q) (by rw [dd]; omega)) ?_
        rintro r3 N3 (⟨rfl, c2, s2, k2, tl2, Q2, S, hD2, lt⟩ | ⟨rfl, g⟩)
        · refine ⟨_, rfl, ?_⟩
          refine am_run hX 1 _ _ _ _ ?_
          conv => whnf
          have it := hD2.1.2.1.1
          exact ⟨fun _ => ih N3 c2 s2 k2 tl2 Q2 (Ss ++ [S]) (by omega) (stD_t hS2 hD2), fun z => absurd (by decide) z⟩
        · refine ⟨_, rfl, ?_⟩
          refine am_run hX 1 _ _ _ _ ?_
          conv => whnf
          refine ⟨fun z => absurd rfl z, fun _ => ?_⟩
          refine am_run hX 2 _ _ _ _ ?_
          conv => whnf
          exact ⟨rfl, Or.inr ⟨rfl, stN_t (M' := M) hS2 g⟩⟩
  exact loop (t - cxI c + 1) M c s k tl Q [] (by omega) (stD_r hI)
theorem st_n : ∀ n, soA T t W n
  | 0 => by
    intro M c s k tl Q E hI hn hc h93 hE
    obtain ⟨e, rfl⟩ : ∃ e, E = e + 7 := ⟨E - 7, by omega⟩
    refine ct_rst hI hc h93 (fun E' _ N c' s' k' tl' Q' hI' hi _ => ?_)
    have := hI'.2.1.1
    omega
  | n + 1 => by
    intro M c s k tl Q E hI hn hc h93 hE
    obtain ⟨e, rfl⟩ : ∃ e, E = e + 7 := ⟨E - 7, by omega⟩
    refine ct_rst hI hc h93 (fun E' hE' N c' s' k' tl' Q' hI' hi hd => ?_)
    have := hI'.2.1.1
    have d8 : cxD c' ≤ 8 := hI'.2.2.2.2.2.1.2.2.1
    exact ss_o1 (st_n n) N c' s' k' tl' Q' E' hI' (by omega) (by omega) (by omega)
/-- what the reference makes of a TAPE -/
def txQ (M : mm_M) (T : Nat → Nat) (t : Nat) (r : am_R) (N : mm_M) : Prop := (r = .inl (some (aI 0)) ∧ rjF rdU rdC M N ∧ ∃ p, txR T t p ∧ N.1 108 4 = 1 ∧ N.1 108 5 = nI p) ∨ (r = .inl (some (aI 1)) ∧ rjF rdS rdC M N ∧ ∃ W c s k tl Q Ss, txG T t W c s ∧ RIv N T t W c s k tl Q ∧ k = (flT Ss).length ∧ trH N tl 0 (flT Ss) ∧ cxR c = 4 ∧ (cxF c = 0 → jtP (c0X T t W) s0X (fun _ => (0, [])) c s Q 0 Ss))
set_option maxRecDepth 100000 in
theorem rt_z {P : am_Q} {X : am_X} {E : Nat} (hX : am_K E false nm_X12_readText P X) (hK : ∀ v, X 45 [some (aR 108), some (aI v)] [] (mm_i M 128 (fun j => if j < 4 then 0 else M.1 128 j))) : ∀ (m i : Nat), i + m = 4 → X 27 [some (aR 108), some (aI (nI i))] [] (mm_i M 128 (fun j => if j < i then 0 else M.1 128 j)) := by
  intro m
  induction m with
  | zero =>
    intro i hi
    have hi : i = 4 := by omega
    subst hi
    refine am_run hX 3 _ _ _ _ ?_
    conv => whnf
    exact ⟨fun _ => hK _, fun c => absurd (by decide) c⟩
  | succ m ih =>
    intro i hi
    refine am_run hX 3 _ _ _ _ ?_
    conv => whnf
    refine ⟨fun c => absurd c (nI_ge (a := i) (b := 4) (by omega) (by decide)), fun _ => ?_⟩
    refine am_run hX 5 _ _ _ _ ?_
    conv => whnf
    refine ⟨vp_in_nI (by show i < 4; omega) (by decide), ?_⟩
    rw [nI_clamp (n := i) (by omega), mm_ii, mm_i1]
    refine am_run hX 2 _ _ _ _ ?_
    conv => whnf
    rw [nI_1]
    have e : upd (fun j => if j < i then 0 else M.1 128 j) i 0 = fun j => if j < i + 1 then 0 else M.1 128 j := by
      funext j
      unfold upd
      by_cases h : j = i
      · rw [if_pos h, if_pos (by omega)]
      · rw [if_neg h]
        dsimp only
        by_cases h2 : j < i
        · rw [if_pos h2, if_pos (by omega)]
        · rw [if_neg h2, if_neg (by omega)]
    rw [e]
    exact ih (i + 1) (by omega)
set_option maxRecDepth 100000 in
theorem ct_rtx {E : Nat} (hE : 60 ≤ E) (hR : rjX M T t) (h3 : M.1 108 3 = 0) (h17 : M.1 108 17 = 0) : am_M E false nm_X12_readText [aR 108] M (txQ M T t) := by
  obtain ⟨e, rfl⟩ : ∃ e, E = e + 5 := ⟨E - 5, by omega⟩
  have z0 := Nat.zero_le t
  have t4 := hR.1
  have a1 := cra_1 (T := T) z0
  have a2 := cra_1 (T := T) a1.2.1
  have c7 := rjX_c (i := 0) hR
  have c17 := rjX_c (i := crA T t 0) hR
  refine ⟨rfl, rfl, rfl, fun X hX => ?_⟩
  -- the loop
  have loop : ∀ (W m : Nat) (M0 N : mm_M) (c1 : CX) (s1 : GS) (k1 tl1 : Nat) (Q1 : Nat → Nat × Tr) (Ss : List (Ev × Tr)) (v : Int32), (49 ≤ crC T t 0 ∧ crC T t 0 ≤ 56) → crC T t (crA T t 0) = 58 → W = crC T t 0 - 48 → rjF rdS rdC M M0 → t - cxI c1 < m → stD M0 N T t W (c0X T t W) s0X 0 0 (fun _ => (0, [])) c1 s1 k1 tl1 Q1 Ss → X 100 [some (aR 108), some (aI v)] [] N := by
    intro W m
    induction m with
    | zero => intro M0 N c1 s1 k1 tl1 Q1 Ss v _ _ _ _ hm; exact absurd hm (Nat.not_lt_zero _)
    | succ m ih =>
      intro M0 N c1 s1 k1 tl1 Q1 Ss v p1 p2 hW F0 hm hS
      have hR1 := hS.1
      have c7 := rjX_c (i := cxI c1) hR1.1
      obtain ⟨dd, dr, dw, di⟩ := hS.2.2.2.2.2.2.2.1
      have dd : cxD c1 = 0 := dd
      have dr : cxR c1 = 4 := dr
      refine am_run hX 2 _ _ _ _ ?_
      conv => whnf
      refine am_c1 (ct_se (d := e + 3) hR1.1 hR1.2.1) ?_
      have hS2 := stD_q hS
      generalize saM N (crP T t (cxI c1)) = N2 at *
      refine am_run hX 1 _ _ _ _ ?_
      conv => whnf
      by_cases q : crC T t (cxI c1) = 0
      · refine ⟨fun _ => ?_, fun z => absurd (by rw [q]; rfl) z⟩
        refine am_run hX 2 _ _ _ _ ?_
        conv => whnf
        obtain ⟨h1, h2, h3, h4, h5, h6, h7, h8, h9, h10⟩ := hS2
        exact ⟨rfl, Or.inr ⟨rfl, rjF_t F0 h4, W, c1, s1, k1, tl1, Q1, Ss, ⟨p1, p2, hW, h7, q, dd⟩, h1, by omega, h6, dr, h10⟩⟩
      · refine ⟨fun z => absurd ((nI_eq (b := 0) (by omega) (by decide)).mp z) q, fun _ => ?_⟩
        refine am_run hX 2 _ _ _ _ ?_
        conv => whnf
        refine am_cq (st_n (T := T) (t := t) (W := W) t N2 c1 s1 k1 tl1 Q1 (e + 4) hS2.1 (Nat.sub_le _ _) (Or.inl q) (fun _ => dd) (by rw [dd]; omega)) ?_
        rintro r3 N3 (⟨rfl, c2, s2, k2, tl2, Q2, S, hD2, lt⟩ | ⟨rfl, g⟩)
        · refine ⟨_, rfl, ?_⟩
          refine am_run hX 1 _ _ _ _ ?_
          conv => whnf
          have it := hD2.1.2.1.1
          exact ⟨fun _ => ih M0 N3 c2 s2 k2 tl2 Q2 (Ss ++ [S]) v p1 p2 hW F0 (by omega) (stD_t hS2 hD2), fun z => absurd (by decide) z⟩
        · refine ⟨_, rfl, ?_⟩
          refine am_run hX 1 _ _ _ _ ?_
          conv => whnf
          refine ⟨fun z => absurd rfl z, fun _ => ?_⟩
          refine am_run hX 2 _ _ _ _ ?_
          conv => whnf
          obtain ⟨g1, p, g2, g3, g4⟩ := stN_t (M' := M) hS2 g
          rw [hW] at g2
          exact ⟨rfl, Or.inl ⟨rfl, rjF_t (rjF_w (by decide) (by decide) F0) g1, p, Or.inr (Or.inr ⟨p1, p2, g2⟩), g3, g4⟩⟩
  -- the start
  refine am_run hX 3 _ _ _ _ ?_
  conv => whnf
  generalize q1 : mm_i M 108 _ = N1
  have F1 : rjF rdS rdC M N1 := by rw [← q1]; exact rjF_u M _ rfl
  have x19 : N1.1 108 19 = 0 := by rw [← q1]; exact rj_at _ _ _
  have g1 : ∀ y, y ≠ 19 → N1.1 108 y = M.1 108 y := fun y hy => by rw [← q1]; exact rj_an _ _ _ _ hy
  refine am_run hX 3 _ _ _ _ ?_
  conv => whnf
  generalize q2 : mm_i N1 108 _ = N2
  have F2 : rjF rdS rdC N1 N2 := by rw [← q2]; exact rjF_u N1 _ rfl
  have x27 : N2.1 108 27 = 0 := by rw [← q2]; exact rj_at _ _ _
  have g2 : ∀ y, y ≠ 27 → N2.1 108 y = N1.1 108 y := fun y hy => by rw [← q2]; exact rj_an _ _ _ _ hy
  refine am_run hX 3 _ _ _ _ ?_
  conv => whnf
  generalize q3 : mm_i N2 108 _ = N3
  have F3 : rjF rdS rdC N2 N3 := by rw [← q3]; exact rjF_u N2 _ rfl
  have x32 : N3.1 108 32 = 0 := by rw [← q3]; exact rj_at _ _ _
  have g3 : ∀ y, y ≠ 32 → N3.1 108 y = N2.1 108 y := fun y hy => by rw [← q3]; exact rj_an _ _ _ _ hy
  refine am_run hX 3 _ _ _ _ ?_
  conv => whnf
  refine ⟨⟨rfl, rfl⟩, ?_⟩
  generalize q4 : mm_i N3 108 _ = N4
  have F4 : rjF rdS rdC N3 N4 := by rw [← q4]; exact rjF_u N3 _ rfl
  have x35 : N4.1 108 35 = 0 := by rw [← q4]; exact rj_at _ _ _
  have g4 : ∀ y, y ≠ 35 → N4.1 108 y = N3.1 108 y := fun y hy => by rw [← q4]; exact rj_an _ _ _ _ hy
  refine am_run hX 3 _ _ _ _ ?_
  conv => whnf
  refine ⟨⟨rfl, rfl⟩, ?_⟩
  generalize q5 : mm_i N4 108 _ = N5
  have F5 : rjF rdS rdC N4 N5 := by rw [← q5]; exact rjF_u N4 _ rfl
  have x34 : N5.1 108 34 = 0 := by rw [← q5]; exact rj_at _ _ _
  have g5 : ∀ y, y ≠ 34 → N5.1 108 y = N4.1 108 y := fun y hy => by rw [← q5]; exact rj_an _ _ _ _ hy
  have FA : rjF rdS rdC M N5 := rjF_t F1 (rjF_t F2 (rjF_t F3 (rjF_t F4 F5)))
  have y19 : N5.1 108 19 = 0 := by rw [g5 19 (by decide), g4 19 (by decide), g3 19 (by decide), g2 19 (by decide)]; exact x19
  have y27 : N5.1 108 27 = 0 := by rw [g5 27 (by decide), g4 27 (by decide), g3 27 (by decide)]; exact x27
  have y32 : N5.1 108 32 = 0 := by rw [g5 32 (by decide), g4 32 (by decide)]; exact x32
  have y35 : N5.1 108 35 = 0 := by rw [g5 35 (by decide)]; exact x35
  have yo : ∀ y, y ≠ 19 → y ≠ 27 → y ≠ 32 → y ≠ 35 → y ≠ 34 → N5.1 108 y = M.1 108 y := fun y h1 h2 h3 h4 h5 => by rw [g5 y h5, g4 y h4, g3 y h3, g2 y h2, g1 y h1]
  have y3 : N5.1 108 3 = nI 0 := by rw [yo 3 (by decide) (by decide) (by decide) (by decide) (by decide)]; exact h3
  have y17 : N5.1 108 17 = 0 := by rw [yo 17 (by decide) (by decide) (by decide) (by decide) (by decide)]; exact h17
  refine am_run hX 2 _ _ _ _ ?_
  conv => whnf
  have key := rt_z (M := N5) hX (fun v => ?_) 4 0 (by omega)
  · have e0 : (fun j => if j < 0 then (0 : Int32) else N5.1 128 j) = N5.1 128 := by
      funext j
      rw [if_neg (by omega)]
    rw [e0, mm_iz] at key
    exact key
  generalize q6 : mm_i N5 128 _ = N6
  have F6 : rjF [] [128] N5 N6 := by rw [← q6]; exact rjF_c N5 _ (by decide) rfl
  have x128 : ∀ l, l < 4 → N6.1 128 l = 0 := fun l hl => by rw [← q6, mm_i1]; exact if_pos hl
  have R6 : rjX N6 T t := rjX_f rfl rfl F6 (rjX_f rfl rfl FA hR)
  have A6 : rjA N6 T t 0 := rjA_e z0 (by rw [F6.2.1 3 rfl]; exact y3)
  have FB : rjF rdS rdC M N6 := rjF_t FA (rjF_w (by decide) (by decide) F6)
  -- refused at the first char
  have refu : ¬ (49 ≤ crC T t 0 ∧ crC T t 0 ≤ 56) → X 63 [some (aR 108), some (aI v)] [] (saM N6 (crP T t 0)) := by
    intro h
    refine am_run hX 2 _ _ _ _ ?_
    conv => whnf
    have kk := ct_rf (d := e + 2) (sa_X (crP T t 0) R6) (rjA_p z0 (sa_3 N6 _))
    rw [rf_sa] at kk
    refine am_c1 kk ?_
    refine am_run hX 1 _ _ _ _ ?_
    conv => whnf
    exact ⟨rfl, Or.inl ⟨rfl, rjF_t (rjF_w (by decide) (by decide) FB) (rf_F _ _ rfl rfl rfl), _, Or.inl ⟨h, rfl⟩, (rf_45 _ _).1, (rf_45 _ _).2⟩⟩
  have ks := ct_se0 (d := e + 3) (sa_X (crP T t 0) R6) z0 (sa_3 N6 _)
  refine am_run hX 2 _ _ _ _ ?_
  conv => whnf
  refine am_c1 (ct_se (d := e + 3) R6 A6) ?_
  refine am_run hX 2 _ _ _ _ ?_
  conv => whnf
  by_cases lo : crC T t 0 < 49
  · exact ⟨fun _ => refu (by omega), fun z => absurd (nI_lt (b := 49) lo (by decide)) z⟩
  · refine ⟨fun z => absurd z (nI_nlt (b := 49) (by omega) (by omega)), fun _ => ?_⟩
    refine am_run hX 2 _ _ _ _ ?_
    conv => whnf
    refine am_c1 ks ?_
    refine am_run hX 2 _ _ _ _ ?_
    conv => whnf
    by_cases up : crC T t 0 ≤ 56
    · refine ⟨fun _ => ?_, fun z => absurd (nI_le (b := 56) up (by decide)) z⟩
      have F7 : rjF [3] [] N6 (saM N6 (crP T t 0)) := sa_F N6 _ rfl
      have e7 := sa_3 N6 (crP T t 0)
      generalize saM N6 (crP T t 0) = N7 at *
      have ea : crA T t 0 = crP T t 0 + 1 := cra_p (by omega)
      refine am_run hX 3 _ _ _ _ ?_
      conv => whnf
      refine am_c1 ks ?_
      refine am_run hX 3 _ _ _ _ ?_
      conv => whnf
      rw [show nI (crC T t 0) - 48 = nI (crC T t 0 - 48) from by rw [show (48 : Int32) = nI 48 from rfl, nI_sub (by omega)]]
      generalize q8 : mm_i N7 108 _ = N8
      have F8 : rjF [33] [] N7 N8 := by rw [← q8]; exact rjF_u N7 _ rfl
      have x33 : N8.1 108 33 = nI (crC T t 0 - 48) := by rw [← q8]; exact rj_at _ _ _
      have e8 : N8.1 108 3 = nI (crP T t 0) := by rw [F8.2.1 3 rfl]; exact e7
      refine am_run hX 6 _ _ _ _ ?_
      conv => whnf
      rw [e8, nI_1, ← ea]
      generalize q9 : mm_i N8 108 _ = N9
      have F9 : rjF [3] [] N8 N9 := by rw [← q9]; exact rjF_u N8 _ rfl
      have e9 : N9.1 108 3 = nI (crA T t 0) := by rw [← q9]; exact rj_at _ _ _
      have G : rjF [3, 33] [] N6 N9 := rjF_t (rjF_w (by decide) (by decide) F7) (rjF_t (rjF_w (by decide) (by decide) F8) (rjF_w (by decide) (by decide) F9))
      have R9 : rjX N9 T t := rjX_f rfl rfl G R6
      refine am_run hX 3 _ _ _ _ ?_
      conv => whnf
      by_cases w : crC T t (crA T t 0) = 58
      · refine am_c1 (ct_wa1 (d := e + 1) (c := 58) R9 (rjA_e a1.2.1 e9) (by decide) w) ?_
        refine am_run hX 1 _ _ _ _ ?_
        conv => whnf
        refine ⟨fun _ => ?_, fun z => absurd (by decide) z⟩
        have FC : rjF [3, 33] [] N6 (saM N9 (crA T t (crA T t 0))) := rjF_t G (sa_F N9 _ rfl)
        have e10 := sa_3 N9 (crA T t (crA T t 0))
        have x33' : (saM N9 (crA T t (crA T t 0))).1 108 33 = nI (crC T t 0 - 48) := by rw [(sa_F (S := [3]) (K := []) N9 _ rfl).2.1 33 rfl, F9.2.1 33 rfl]; exact x33
        generalize saM N9 (crA T t (crA T t 0)) = N10 at *
        have W8 : crC T t 0 - 48 ≤ 8 := by omega
        have FD : ∀ y, y ≠ 3 → y ≠ 33 → N10.1 108 y = N5.1 108 y := fun y h1 h2 => by
          rw [FC.2.1 y (by simp [h1, h2]), F6.2.1 y rfl]
        refine loop (crC T t 0 - 48) (t + 1) N10 N10 (c0X T t (crC T t 0 - 48)) s0X 0 0 _ [] v ⟨by omega, up⟩ w rfl (rjF_t FB (rjF_w (by decide) (by decide) FC)) (by omega) (stD_r ?_)
        refine ⟨rjX_f rfl rfl FC R6, rjA_e a2.2.1 e10, ⟨(by decide : 0 < 2 ^ 20), ?_, fun z => absurd rfl z⟩, ⟨x33', ?_, ?_, fun _ => ⟨?_, rfl⟩, fun z => absurd rfl z⟩, ⟨⟨?_, Nat.zero_le _⟩, ⟨?_, Nat.zero_le _⟩, fun l hl => ?_, fun _ l hl z => absurd rfl z⟩, ?_, ?_⟩
        · rw [FD 17 (by decide) (by decide), y17]; rfl
        · rw [FD 32 (by decide) (by decide), y32]; rfl
        · rw [FD 34 (by decide) (by decide), x34]; rfl
        · rw [FD 35 (by decide) (by decide), y35]; rfl
        · rw [FD 19 (by decide) (by decide), y19]; rfl
        · rw [FD 27 (by decide) (by decide), y27]; rfl
        · rw [FC.1 128 (by decide) rfl, x128 l hl]; rfl
        · exact ⟨W8, W8, (by decide : 0 ≤ 8), (by decide : 4 ≤ 4), fun _ => (by decide : 0 ≤ 4), ⟨(by decide : 0 < 16), (by decide : 0 < 16)⟩, fun j hj => absurd hj (Nat.not_lt_zero _), fun z => absurd rfl z, fun _ _ => rfl⟩
        · exact ⟨fun _ => ⟨fun l hl ht => absurd rfl ht, fun z => absurd rfl z⟩, fun _ _ => ⟨rfl, rfl⟩, fun z => absurd rfl z⟩
      · refine am_c1 (ct_wa0 (d := e + 1) (c := 58) R9 (rjA_e a1.2.1 e9) (by decide) w) ?_
        refine am_run hX 1 _ _ _ _ ?_
        conv => whnf
        refine ⟨fun z => absurd rfl z, fun _ => ?_⟩
        refine am_run hX 2 _ _ _ _ ?_
        conv => whnf
        exact ⟨rfl, Or.inl ⟨rfl, rjF_t (rjF_t (rjF_w (by decide) (by decide) FB) (rjF_w (by decide) (by decide) G)) (rf_F _ _ rfl rfl rfl), _, Or.inr (Or.inl ⟨⟨by omega, up⟩, w, rfl⟩), (rf_45 _ _).1, (rf_45 _ _).2⟩⟩
    · exact ⟨fun z => absurd z (nI_ge (a := 56) (by omega) (by omega)), fun _ => refu (by omega)⟩
end CSG
