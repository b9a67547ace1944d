/-! circuit: the reference in a STATEMENT -/
def giS : List Nat := [3, 17, 18, 19, 27, 35]
def giC : List Nat := [120, 121, 122, 123, 124, 125, 126, 127]
/-- in a STATEMENT: its node is k; WIRES so far, how many are CONTROLS, -, its number, its kind -/
def soI (M N : mm_M) (T : Nat → Nat) (t k tl i f : Nat) (ws : List Nat) (nc : Nat) (b : Bool) (nu w0 v5 : Int32) : Prop := (rjF giS giC M N ∧ kpt k tl M N) ∧ (rjA N T t i ∧ rjN N f ∧ tl + ws.length ≤ i) ∧ (N.1 108 19 = nI (k + 1) ∧ wsH N k tl ws) ∧ (N.1 123 k = nI nc ∧ N.1 124 k = b01 b ∧ N.1 125 k = nu ∧ N.1 120 k = w0 ∧ N.1 108 35 = v5)
section CSA
variable {d : Nat} {M N K : mm_M} {T : Nat → Nat} {t k tl i f : Nat} {ws : List Nat} {nc : Nat} {b : Bool} {nu w0 v5 : Int32}
theorem kpt_0 (h : ∀ q, 120 ≤ q → q ≤ 127 → K.1 q = N.1 q) : kpt k tl N K := ⟨fun q a b j _ => by rw [h q a (by omega)], fun j _ => by rw [h 127 (by decide) (by decide)]⟩
theorem soI_m {i' f' : Nat} {v : Int32} (h : soI M N T t k tl i f ws nc b nu w0 v5) (hF : rjF [3, 17, 18, 35] [] N K) (hA : rjA K T t i') (hN : rjN K f') (hi : i ≤ i') (h5 : K.1 108 35 = v) : soI M K T t k tl i' f' ws nc b nu w0 v := by
  obtain ⟨⟨h1, h2⟩, ⟨h3, h4, h6⟩, ⟨h7, h8⟩, h9, h10, h11, h12, h13⟩ := h
  refine ⟨⟨rjF_t h1 (rjF_w (by decide) (by decide) hF), kpt_t h2 (kpt_0 (fun q a _ => hF.1 q (by omega) rfl))⟩, ⟨hA, hN, by omega⟩, ⟨?_, wsH_f rfl rfl rfl rfl hF h8⟩, ?_, ?_, ?_, ?_, h5⟩
  · rw [hF.2.1 19 rfl]; exact h7
  · rw [hF.1 123 (by decide) rfl]; exact h9
  · rw [hF.1 124 (by decide) rfl]; exact h10
  · rw [hF.1 125 (by decide) rfl]; exact h11
  · rw [hF.1 120 (by decide) rfl]; exact h12
theorem soI_s (h : soI M N T t k tl i f ws nc b nu w0 v5) : soI M (saM N (crP T t i)) T t k tl i f ws nc b nu w0 v5 := by
  have hF : rjF [3] [] N (saM N (crP T t i)) := sa_F N _ rfl
  exact soI_m h (rjF_w (by decide) (by decide) hF) (rjA_p h.2.1.1.1 (sa_3 N _)) (rjN_f rfl rfl hF h.2.1.2.1) (Nat.le_refl _) (by rw [hF.2.1 35 rfl]; exact h.2.2.2.2.2.2.2)
/-- one place further -/
theorem soI_a (h : soI M N T t k tl i f ws nc b nu w0 v5) (c0 : crC T t i ≠ 0) : soI M (saM N (crA T t i)) T t k tl (crA T t i) f ws nc b nu w0 v5 := by
  have hF : rjF [3] [] N (saM N (crA T t i)) := sa_F N _ rfl
  have a1 := cra_1 (T := T) h.2.1.1.1
  exact soI_m h (rjF_w (by decide) (by decide) hF) (rjA_e a1.2.1 (sa_3 N _)) (rjN_f rfl rfl hF h.2.1.2.1) a1.1 (by rw [hF.2.1 35 rfl]; exact h.2.2.2.2.2.2.2)
/-- something is written into the node -/
theorem soI_u {q : Nat} {v : Int32} (h : soI M N T t k tl i f ws nc b nu w0 v5) (hq : q = 120 ∨ q = 123 ∨ q = 124 ∨ q = 125 ∨ q = 126) {nc' : Nat} {b' : Bool} {nu' w0' : Int32} (e3 : (mm_i N q (upd (N.1 q) k v)).1 123 k = nI nc') (e4 : (mm_i N q (upd (N.1 q) k v)).1 124 k = b01 b') (e5 : (mm_i N q (upd (N.1 q) k v)).1 125 k = nu') (e0 : (mm_i N q (upd (N.1 q) k v)).1 120 k = w0') : soI M (mm_i N q (upd (N.1 q) k v)) T t k tl i f ws nc' b' nu' w0' v5 := by
  obtain ⟨⟨h1, h2⟩, ⟨h3, h4, h6⟩, ⟨h7, h8⟩, _, _, _, _, h13⟩ := h
  have hF : rjF [] [q] N (mm_i N q (upd (N.1 q) k v)) := rjF_c N _ (by omega) (by simp)
  have n8 : (mm_i N q (upd (N.1 q) k v)).1 108 = N.1 108 := mm_ne _ _ _ _ (by omega)
  have no : ∀ z, z ≠ q → (mm_i N q (upd (N.1 q) k v)).1 z = N.1 z := fun z hz => mm_ne _ _ _ _ hz
  have kp : kpt k tl N (mm_i N q (upd (N.1 q) k v)) := by
    refine ⟨fun z _ _ j hj => ?_, fun j _ => by rw [no 127 (by omega)]⟩
    by_cases y : z = q
    · rw [y, rj_an _ _ _ _ (by omega)]
    · rw [no z y]
  refine ⟨⟨rjF_t h1 ⟨fun z a c => no z (fun e => ?_), fun y _ => by rw [n8], rfl⟩, kpt_t h2 kp⟩, ⟨⟨h3.1, ?_⟩, ⟨h4.1, by rw [n8]; exact h4.2.1, fun y => by rw [n8]; exact h4.2.2 y⟩, h6⟩, ⟨by rw [n8]; exact h7, by rw [no 121 (by omega)]; exact h8.1, by rw [no 122 (by omega)]; exact h8.2.1, fun j hj => by rw [no 127 (by omega)]; exact h8.2.2.1 j hj, by rw [n8]; exact h8.2.2.2⟩, e3, e4, e5, e0, by rw [n8]; exact h13⟩
  · rw [e] at c
    rcases hq with z | z | z | z | z <;> rw [z] at c <;> exact absurd c (by decide)
  · obtain ⟨j, j1, j2, j3⟩ := h3.2
    exact ⟨j, j1, by rw [n8]; exact j2, j3⟩
/-- a WIRE more -/
theorem soI_w {fr : Nat} {r : am_R} (h : soI M N T t k tl i f ws nc b nu w0 v5) (hd : isDg (crC T t i) = true) (g : rzK N T t i k tl fr f ws r K) : r = .inl (some (aI 1)) ∧ soI M K T t k tl (crA T t i) (twF fr (mskL ws) f (crP T t i) (crC T t i - 48)) (ws ++ [crC T t i - 48]) nc b nu w0 v5 ∧ K.1 126 = N.1 126 := by
  obtain ⟨⟨h1, h2⟩, ⟨h3, h4, h6⟩, ⟨h7, h8⟩, h9, h10, h11, h12, h13⟩ := h
  obtain ⟨g1, g2, g3, g4, g5, g6, g7⟩ := g
  have a1 := cra_1 (T := T) h3.1
  obtain ⟨c1, c2⟩ := isDg_w hd
  have pt : crP T t i < t := crn_1 (by omega)
  have a2 := a1.2.2 pt
  refine ⟨g1, ⟨⟨rjF_t h1 (rjF_w (by decide) (by decide) g2), kpt_t h2 ⟨fun q a c j hj => ?_, fun j hj => g7 j (by omega)⟩⟩, ⟨rjA_e a1.2.1 g3, g4, ?_⟩, ⟨?_, g5⟩, ?_, ?_, ?_, ?_, ?_⟩, ?_⟩
  · by_cases y : q = 122
    · rw [y]
      exact g6 j (by omega)
    · rw [g2.1 q (by omega) (by
        have : ∀ q, 120 ≤ q → q ≤ 126 → q ≠ 122 → [122, 127].contains q = false := by
          intro q a b c
          rcases (by omega : q = 120 ∨ q = 121 ∨ q = 123 ∨ q = 124 ∨ q = 125 ∨ q = 126) with rfl | rfl | rfl | rfl | rfl | rfl <;> rfl
        exact this q a c y)]
  · rw [List.length_append]
    show tl + (ws.length + 1) ≤ _
    omega
  · rw [g2.2.1 19 rfl]; exact h7
  · rw [g2.1 123 (by decide) rfl]; exact h9
  · rw [g2.1 124 (by decide) rfl]; exact h10
  · rw [g2.1 125 (by decide) rfl]; exact h11
  · rw [g2.1 120 (by decide) rfl]; exact h12
  · rw [g2.2.1 35 rfl]; exact h13
  · exact g2.1 126 (by decide) rfl
theorem soI_F (h : soI M N T t k tl i f ws nc b nu w0 v5) : rjF rdU rdC M N := rjF_w (by decide) (by decide) h.1.1
theorem soI_X (h : soI M N T t k tl i f ws nc b nu w0 v5) (hR : rjX M T t) : rjX N T t := rjX_f rfl rfl h.1.1 hR
theorem soI_f {y : Nat} (h : soI M N T t k tl i f ws nc b nu w0 v5) (hy : giS.contains y = false) : N.1 108 y = M.1 108 y := h.1.1.2.1 y hy
/-- it was refused -/
theorem soI_N {W q : Nat} {c : CX} (h : soI M N T t k tl i f ws nc b nu w0 v5) (hz : tkE T t W c = .inl q) (hc : crC T t (cxI c) ≠ 0 ∨ cxD c ≠ 0) : stN M (rfM N q) T t W c := ⟨rjF_t (soI_F h) (rf_F N q rfl rfl rfl), q, ⟨0, c, rfl, hz, hc⟩, (rf_45 N q).1, (rf_45 N q).2⟩
/-- a STATEMENT's WIRES are told: the machine goes on -/
theorem soI_t (hR : rjX M T t) (h : soI M N T t k tl i f ws nc b nu w0 v5) (hd : isDg (crC T t i) = true) : k < 401 → tl + ws.length < 401 := by
  intro _
  obtain ⟨c1, c2⟩ := isDg_w hd
  have pt : crP T t i < t := crn_1 (by omega)
  have := (crp_1 (T := T) h.2.1.1.1).1
  have := h.2.1.2.2
  have := hR.1
  omega
/-- the end of a STATEMENT -/
theorem nd_en {e : Ev} {s : Nat} (h : soI M N T t k tl i f ws nc b nu w0 v5) (e1 : w0 = nI (wtE e)) (e2 : evW e = ws) (e3 : e.2.2.2.2.1.length = nc) (e4 : e.2.2.2.1 = b) (e5 : e.1 ≠ 4 → nu = nI (nuE e)) (e6 : N.1 126 k = nI (k + 1 + s)) : ndH N (tl + ws.length) k e s := by
  obtain ⟨_, _, ⟨_, h8⟩, h9, h10, h11, h12, _⟩ := h
  refine ⟨by rw [h12]; exact e1, ⟨tl, by rw [e2]; omega, h8.1, fun j hj => ?_⟩, by rw [e2]; exact h8.2.1, by rw [e3]; exact h9, by rw [e4]; exact h10, fun z => by rw [h11]; exact e5 z, e6⟩
  rw [e2] at hj ⊢
  exact (h8.2.2.1 j hj).1
set_option maxRecDepth 100000 in
theorem px_l {P : am_Q} {X : am_X} {fr i0 : Nat} {v1 : Int32} (hX : am_K (d + 3) false nm_X12_readStatement P X) (hR : rjX M T t) (h33 : M.1 108 33 = nI fr) (hfr : fr ≤ 8) (k4 : k < 401) (Z : Nat ⊕ (Nat × Nat × Nat × Nat × Nat × List Nat × Bool)) (hK0 : ∀ q N, Z = .inl q → rjF rdU rdC M N → N.1 108 4 = 1 → N.1 108 5 = nI q → P (.inl (some (aI 0))) N) (hK1 : ∀ i f cs N, isDg (crC T t i) = false → Z = (if crC T t i = 45 then .inr (crC T t (crA T t i), crP T t (crA T t i), crA T t (crA T t i), f, mskL cs, cs, true) else .inr (crC T t i, crP T t i, crA T t i, f, mskL cs, cs, false)) → soI M N T t k tl i f cs cs.length false 0 (-1) v5 → N.1 108 3 = nI (crP T t i) → i0 ≤ i → X 110 [some (aR 108), some (aI v1), some (aI (nI k))] [] N) : ∀ (m i f : Nat) (cs : List Nat) (N : mm_M), t - i ≤ m → i0 ≤ i → pfx T t fr m (crC T t i) (crP T t i) (crA T t i) f (mskL cs) cs = Z → soI M N T t k tl i f cs cs.length false 0 (-1) v5 → X 72 [some (aR 108), some (aI v1), some (aI (nI k))] [] N := by
  have t4 := hR.1
  have ix : vp_in (nI k) 401 := vp_in_nI k4 (by decide)
  have cl : (nI k).toNatClampNeg = k := nI_clamp (by omega)
  intro m
  induction m with
  | zero =>
    intro i f cs N hm hi0 hZ hI
    have hi := hI.2.1.1.1
    obtain rfl : i = t := by omega
    have c0 : crC T i i = 0 := (cr0_1 (T := T) (Nat.le_refl i) (by have := (crp_1 (T := T) (Nat.le_refl i)).1; omega)).2.1
    have ed : isDg (crC T i i) = false := by rw [c0]; rfl
    refine am_run hX 2 _ _ _ _ ?_
    conv => whnf
    refine am_c1 (ct_dg (d := d + 1) (soI_X hI hR) hI.2.1.1) ?_
    refine am_run hX 1 _ _ _ _ ?_
    conv => whnf
    rw [ed]
    refine ⟨fun _ => ?_, fun z => absurd rfl z⟩
    refine hK1 i f cs _ ed ?_ (soI_s hI) (sa_3 N _) hi0
    rw [if_neg (by omega), ← hZ]
    rfl
  | succ m ih =>
    intro i f cs N hm hi0 hZ hI
    have hi := hI.2.1.1.1
    have e : pfx T t fr (m + 1) (crC T t i) (crP T t i) (crA T t i) f (mskL cs) cs = (if isDg (crC T t i) = true then (if crC T t (crA T t i) = 62 then pfx T t fr m (crC T t (crA T t (crA T t i))) (crP T t (crA T t (crA T t i))) (crA T t (crA T t (crA T t i))) (twF fr (mskL cs) f (crP T t i) (crC T t i - 48)) (mskL cs ||| 2 ^ (crC T t i - 48)) (cs ++ [crC T t i - 48]) else .inl (crP T t (crA T t i))) else if crC T t i = 45 then .inr (crC T t (crA T t i), crP T t (crA T t i), crA T t (crA T t i), f, mskL cs, cs, true) else .inr (crC T t i, crP T t i, crA T t i, f, mskL cs, cs, false)) := rfl
    rw [e] at hZ
    have a1 := cra_1 (T := T) hi
    have a2 := cra_1 (T := T) a1.2.1
    refine am_run hX 2 _ _ _ _ ?_
    conv => whnf
    refine am_c1 (ct_dg (d := d + 1) (soI_X hI hR) hI.2.1.1) ?_
    have hI1 := soI_s hI
    have e3 := sa_3 N (crP T t i)
    generalize saM N (crP T t i) = N1 at *
    refine am_run hX 1 _ _ _ _ ?_
    conv => whnf
    cases hd : isDg (crC T t i) with
    | false =>
      rw [hd, if_neg (by decide)] at hZ
      exact ⟨fun _ => hK1 i f cs N1 hd hZ.symm hI1 e3 hi0, fun z => absurd rfl z⟩
    | true =>
      rw [if_pos hd] at hZ
      have pt : crP T t i < t := by
        obtain ⟨c1, c2⟩ := isDg_w hd
        exact crn_1 (by omega)
      have a3 := a1.2.2 pt
      refine ⟨fun z => absurd z (by decide), fun _ => ?_⟩
      refine am_run hX 3 _ _ _ _ ?_
      conv => whnf
      refine am_cq (ct_rw1 (d := d) (soI_X hI1 hR) hI1.2.1.1 k4 hI1.2.2.1.2 (soI_t hR hI1 hd k4) (by rw [soI_f hI1 rfl]; exact h33) hfr hI1.2.1.2.1 hd) ?_
      intro r2 N2 g2
      obtain ⟨rfl, hI2, _⟩ := soI_w hI1 hd g2
      refine ⟨_, rfl, ?_⟩
      refine am_run hX 1 _ _ _ _ ?_
      conv => whnf
      refine ⟨fun _ => ?_, fun z => absurd (by decide) z⟩
      refine am_run hX 5 _ _ _ _ ?_
      conv => whnf
      refine ⟨ix, ?_⟩
      rw [cl, hI2.2.2.2.1]
      refine am_run hX 3 _ _ _ _ ?_
      conv => whnf
      refine ⟨ix, ?_⟩
      rw [cl, nI_1]
      have hI3 := soI_u (q := 123) (v := nI (cs.length + 1)) hI2 (by decide) (nc' := (cs ++ [crC T t i - 48]).length) (b' := false) (nu' := 0) (w0' := -1) (by rw [List.length_append]; exact rj_ac _ _ _ _) (by rw [mm_ne _ _ _ _ (by decide)]; exact hI2.2.2.2.2.1) (by rw [mm_ne _ _ _ _ (by decide)]; exact hI2.2.2.2.2.2.1) (by rw [mm_ne _ _ _ _ (by decide)]; exact hI2.2.2.2.2.2.2.1)
      generalize mm_i N2 123 _ = N3 at *
      refine am_run hX 3 _ _ _ _ ?_
      conv => whnf
      by_cases w : crC T t (crA T t i) = 62
      · rw [if_pos w, ← msk_a] at hZ
        refine am_c1 (ct_wa1 (d := d) (c := 62) (soI_X hI3 hR) hI3.2.1.1 (by decide) w) ?_
        refine am_run hX 1 _ _ _ _ ?_
        conv => whnf
        refine ⟨fun _ => ?_, fun z => absurd (by decide) z⟩
        have pt2 : crP T t (crA T t i) < t := crn_1 (by omega)
        have a4 := a2.2.2 pt2
        exact ih (crA T t (crA T t i)) _ (cs ++ [crC T t i - 48]) _ (by omega) (by omega) hZ (soI_a hI3 (by omega))
      · rw [if_neg w] at hZ
        refine am_c1 (ct_wa0 (d := d) (c := 62) (soI_X hI3 hR) hI3.2.1.1 (by decide) w) ?_
        refine am_run hX 1 _ _ _ _ ?_
        conv => whnf
        refine ⟨fun z => absurd rfl z, fun _ => ?_⟩
        refine am_run hX 2 _ _ _ _ ?_
        conv => whnf
        exact ⟨rfl, hK0 _ _ hZ.symm (rjF_t (soI_F hI3) (rf_F _ _ rfl rfl rfl)) (rf_45 _ _).1 (rf_45 _ _).2⟩
end CSA
