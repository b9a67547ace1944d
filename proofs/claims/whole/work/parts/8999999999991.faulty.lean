/-! THE PAIR faulty: the reference's side, and the pair -/
section FAM
variable {d : Nat} {M : mm_M}
theorem ct_goT {W : Nat} {x : bk_X} {y : PZ} {s : Int32} (hW : W ≤ 8) (ho : ogd W x) (hp : pln x) (hy : p8 y) : am_M (d + 3) false nm_X12_goThrough [aR 108, aI (nI x.1), aI (nI x.2.1), aI (nI x.2.2.1), aI (nI x.2.2.2.1)] (rG M y s) (fun r M' => r = .inl none ∧ ∃ s', M' = rG M (fT x y) s') := by
  have ow := ho.1
  have h8 := w256 hW
  have c8 := ow.2.2.2.1
  have a8 : x.2.1 < 8 := by have := ow.2.1; omega
  unfold fT
  rcases hp with ⟨h0, hk⟩ | ⟨h0, hk, _⟩
  · rw [if_pos h0, h0]
    exact ct_go0 (d := d) hk hy a8 ow.2.2.1
  · rw [if_neg h0]
    obtain ⟨l8, ln⟩ := lw_w hW ho h0
    exact ct_go1 (d := d) hk hy a8 (by omega) (by omega) ln
set_option maxRecDepth 100000 in
theorem fm_0 {n : Nat} {p i a b wh : Int32} (h : bk_iv M n) (hno : p < 0 ∨ nI n ≤ p) : am_M (d + 2) false nm_X12_faulty [aR 108, aI p, aI i, aI a, aI b, aI wh] M (am_q1 (aI (-1)) (th0 M)) := by
  refine ⟨rfl, rfl, rfl, fun X hX => am_run hX 60 _ _ _ _ ?_⟩
  conv => whnf
  refine am_c1 (bk_isc (d := d) (M := th0 M) p) ?_
  rw [show (th0 M).1 108 6 = nI n from h.2.2.1, if_pos hno]
  conv => whnf
  refine ⟨fun _ => ?_, fun c => absurd rfl c⟩
  conv => whnf
  exact ⟨trivial, rfl, rfl⟩
set_option maxRecDepth 100000 in
theorem fm_1 {n c W S : Nat} {op : Nat → bk_X} {i a b wh : Int32} (h : cir M n c W S op) (hno : fa_b W S op i a b wh) : am_M (d + 4) false nm_X12_faulty [aR 108, aI (nI c), aI i, aI a, aI b, aI wh] M (am_q1 (aI (-1)) (th0 M)) := by
  have hbk := h.1
  have hn := hbk.1
  have cn := h.2.1
  have hbc := h.2.2.1
  have w8 := hbc.2.1
  have hin : vp_in (nI c) 21 := vp_in_nI (by omega) (by decide)
  have h0 : cir (th0 M) n c W S op := h
  refine ⟨rfl, rfl, rfl, fun X hX => am_run hX 60 _ _ _ _ ?_⟩
  conv => whnf
  refine am_c1 (bk_isc (d := d + 2) (M := th0 M) (nI c)) ?_
  rw [show (th0 M).1 108 6 = nI n from hbk.2.2.1, if_neg (bk_yes hn cn)]
  conv => whnf
  refine ⟨fun c => absurd c (by decide), fun _ => ?_⟩
  conv => whnf
  refine ⟨fun _ => by conv => whnf
                      exact ⟨trivial, rfl, rfl⟩, fun c1 => ?_⟩
  conv => whnf
  refine ⟨hin, ?_⟩
  conv => whnf
  rw [nI_clamp (n := c) (by omega), show (th0 M).1 111 c = nI S from hbc.2.2.2.2.2.2.1]
  refine ⟨fun _ => by conv => whnf
                      exact ⟨trivial, rfl, rfl⟩, fun c2 => ?_⟩
  conv => whnf
  refine ⟨fun _ => by conv => whnf
                      exact ⟨trivial, rfl, rfl⟩, fun c3 => ?_⟩
  conv => whnf
  refine ⟨fun c4 => ?_, fun _ => by conv => whnf
                                    exact ⟨trivial, rfl, rfl⟩⟩
  conv => whnf
  refine ⟨hin, ?_⟩
  conv => whnf
  rw [nI_clamp (n := c) (by omega), show (th0 M).1 110 c = nI W from hbc.2.2.2.2.1, sh2 _ (by omega)]
  refine ⟨fun _ => by conv => whnf
                      exact ⟨trivial, rfl, rfl⟩, fun c5 => ?_⟩
  conv => whnf
  refine ⟨fun _ => by conv => whnf
                      exact ⟨trivial, rfl, rfl⟩, fun c6 => ?_⟩
  conv => whnf
  refine ⟨fun _ => by conv => whnf
                      exact ⟨trivial, rfl, rfl⟩, fun c7 => ?_⟩
  conv => whnf
  refine ⟨fun _ => by conv => whnf
                      exact ⟨trivial, rfl, rfl⟩, fun c8 => ?_⟩
  have hf : allN (fun j => okB (op j)) S = false := by
    rcases hno with z | z | z | z | z | z
    · exact absurd z c1
    · exact absurd z c2
    · exact absurd z c3
    · exact absurd c4 z
    · exact absurd ⟨⟨c5, c6⟩, ⟨c7, c8⟩⟩ z
    · exact z
  conv => whnf
  refine am_c1 (ct_canG (d := d) h0) ?_
  rw [hf]
  conv => whnf
  refine ⟨fun c => absurd rfl c, fun _ => ?_⟩
  conv => whnf
  exact ⟨trivial, rfl, rfl⟩
set_option maxRecDepth 100000 in
theorem fm_l {P : am_Q} {X : am_X} {N : mm_M} {n c W S i : Nat} {op : Nat → bk_X} {p : PZ} {a b wh u : Int32} (hX : am_K (d + 3) false nm_X12_faulty P X) (h : cir N n c W S op) (hi : i ≤ S) (hp : p8 p) (hok : allN (fun j => okB (op j)) S = true) (hP : ∀ y s, P (.inl (some (aI (fans wh (thq op i p (S - i)))))) (rG N y s)) (hwh : wh = 0 ∨ wh = 1 ∨ wh = 2) : ∀ r m s l, i + m + r = S → X 105 [some (aR 108), some (aI (nI c)), some (aI (nI i)), some (aI a), some (aI b), some (aI wh), some (aI u), some (aI (nI (thq op i p m).2)), some (aI (nI (300 * c + (i + m)))), l] [] (rG N (thq op i p m).1 s) := by
  obtain ⟨hbk, hcc, hbc, hops, h60⟩ := h
  have hS300 := hbc.2.2.1
  have hn20 := hbk.1
  have w8 := hbc.2.1
  have hin : vp_in (nI c) 21 := vp_in_nI (by omega) (by decide)
  have e3 : (300 : Int32) * nI c + nI S = nI (300 * c + S) := by rw [show (300 : Int32) = nI 300 from rfl, nI_mul, nI_add]
  intro r
  induction r with
  | zero =>
    intro m s l hm
    have e : m = S - i := by omega
    have e2 : i + m = S := by omega
    have hP := hP (thq op i p m).1 s
    rw [e2]
    rw [← e] at hP
    unfold fans at hP
    refine am_run hX 40 _ _ _ _ ?_
    conv => whnf
    refine ⟨hin, ?_⟩
    conv => whnf
    rw [nI_clamp (n := c) (by omega), show (rG N (thq op i p m).1 s).1 111 c = nI S from hbc.2.2.2.2.2.2.1, e3]
    refine ⟨fun _ => ?_, fun c => absurd (nI_le (by omega) (by omega)) c⟩
    rcases hwh with rfl | rfl | rfl
    · conv => whnf
      refine ⟨fun c => absurd rfl c, fun _ => ?_⟩
      conv => whnf
      exact ⟨trivial, hP⟩
    · conv => whnf
      refine ⟨fun _ => ?_, fun c => absurd (by decide) c⟩
      conv => whnf
      refine ⟨fun c => absurd rfl c, fun _ => ?_⟩
      conv => whnf
      exact ⟨trivial, hP⟩
    · conv => whnf
      refine ⟨fun _ => ?_, fun c => absurd (by decide) c⟩
      conv => whnf
      refine ⟨fun _ => ?_, fun c => absurd (by decide) c⟩
      conv => whnf
      exact ⟨trivial, hP⟩
  | succ r ih =>
    intro m s l hm
    have hy8 : p8 (thq op i p m).1 := thq_8 w8 (fun j hj => (hops j hj).1) hp m (by omega)
    obtain ⟨og, bo⟩ := hops (i + m) (by omega)
    have ho := (all_iff S).mp hok (i + m) (by omega)
    have ho : okB (op (i + m)) = true := ho
    have ow := og.1
    have hk10 := ow.1
    have ha8 : (op (i + m)).2.1 < 8 := by have := ow.2.1; omega
    have hb8 := ow.2.2.1
    obtain ⟨o1', o2, o3, o4, o5, o6, o7⟩ := bo
    have hia : vp_in (nI (300 * c + (i + m))) 6300 := vp_in_nI (by omega) (by decide)
    have ih := fun s l => ih (m + 1) s l (by omega)
    have et : thq op i p (m + 1) = stq (op (i + m)) (thq op i p m) := rfl
    rw [et] at ih
    generalize hx : op (i + m) = x at *
    generalize hσ : thq op i p m = σ at *
    obtain ⟨y, t⟩ := σ
    have hy8 : p8 y := hy8
    have rr : ∀ k, k ≠ 108 → (rG N y s).1 k = N.1 k := fun k hk => mm_ne _ _ _ _ hk
    refine am_run hX 10 _ _ _ _ ?_
    conv => whnf
    refine ⟨hin, ?_⟩
    conv => whnf
    rw [nI_clamp (n := c) (by omega), show (rG N y s).1 111 c = nI S from hbc.2.2.2.2.2.2.1, e3]
    refine ⟨fun c => absurd c (nI_ge (by omega) (by omega)), fun _ => ?_⟩
    refine am_run hX 11 _ _ _ _ ?_
    conv => whnf
    refine ⟨hia, ?_⟩
    conv => whnf
    refine ⟨hia, ?_⟩
    conv => whnf
    rw [nI_clamp (n := 300 * c + (i + m)) (by omega), show (rG N y s).1 113 (300 * c + (i + m)) = nI x.2.1 from o3, show (rG N y s).1 112 (300 * c + (i + m)) = nI x.1 from o2]
    by_cases h9 : x.1 = 9
    · have e1 : stq x (y, t) = ((y.1, y.2 ^^^ (y.2 &&& 2 ^ x.2.1)), if y.1.testBit x.2.1 = true then t ||| 2 ^ x.2.2.1 else t ^^^ (t &&& 2 ^ x.2.2.1)) := by
        unfold stq
        rw [if_neg (show ¬ x.1 < 9 by omega), if_neg (show ¬ x.1 = 10 by omega)]
      rw [e1] at ih
      rw [h9]
      refine ⟨fun c => absurd rfl c, fun _ => ?_⟩
      refine am_run hX 4 _ _ _ _ ?_
      conv => whnf
      refine am_c1 (ct_hasX (d := d + 2) hy8 ha8) ?_
      cases hb : y.1.testBit x.2.1 with
      | true =>
        rw [hb, if_pos rfl] at ih
        conv => whnf
        refine ⟨fun c => absurd c (by decide), fun _ => ?_⟩
        refine am_run hX 23 _ _ _ _ ?_
        conv => whnf
        refine ⟨hia, ?_⟩
        conv => whnf
        rw [nI_clamp (n := 300 * c + (i + m)) (by omega), show (rG N y s).1 114 (300 * c + (i + m)) = nI x.2.2.1 from o4, sh2 _ (by omega), sh2 _ (by omega), nI_or, nI_1, rG_w, rG_r, show g3 (N.1 108) y s 46 = nI y.2 from rfl, nI_andn, g3_46]
        exact ih s _
      | false =>
        rw [hb, if_neg (by decide)] at ih
        conv => whnf
        refine ⟨fun _ => ?_, fun c => absurd rfl c⟩
        refine am_run hX 24 _ _ _ _ ?_
        conv => whnf
        refine ⟨hia, ?_⟩
        conv => whnf
        rw [nI_clamp (n := 300 * c + (i + m)) (by omega), show (rG N y s).1 114 (300 * c + (i + m)) = nI x.2.2.1 from o4, sh2 _ (by omega), sh2 _ (by omega), nI_andn, nI_1, rG_w, rG_r, show g3 (N.1 108) y s 46 = nI y.2 from rfl, nI_andn, g3_46]
        exact ih s _
    · refine ⟨fun _ => ?_, fun c => absurd ((nI_eq (a := x.1) (b := 9) (by omega) (by decide)).mp (Decidable.byContradiction c)) h9⟩
      refine am_run hX 6 _ _ _ _ ?_
      conv => whnf
      refine ⟨hia, ?_⟩
      conv => whnf
      rw [nI_clamp (n := 300 * c + (i + m)) (by omega), show (rG N y s).1 112 (300 * c + (i + m)) = nI x.1 from o2]
      by_cases h10 : x.1 = 10
      · have e1 : stq x (y, t) = ((y.1 ^^^ (y.1 &&& 2 ^ x.2.1), y.2 ^^^ (y.2 &&& 2 ^ x.2.1)), t) := by
          unfold stq
          rw [if_neg (show ¬ x.1 < 9 by omega), if_pos h10]
        rw [e1] at ih
        rw [h10]
        refine ⟨fun c => absurd rfl c, fun _ => ?_⟩
        refine am_run hX 23 _ _ _ _ ?_
        conv => whnf
        simp only [sh2 _ (show x.2.1 < 31 by omega), rG_r, rG_w, show g3 (N.1 108) y s 45 = nI y.1 from rfl, nI_andn, g3_45, mm_i1, mm_ii, show ∀ v : Nat, g3 (N.1 108) (v, y.2) s 46 = nI y.2 from fun _ => rfl, g3_46, nI_1]
        exact ih s _
      · have h8 : x.1 < 9 := by omega
        have e1 : stq x (y, t) = (fT x y, t) := by
          unfold stq
          rw [if_pos h8]
        rw [e1] at ih
        refine ⟨fun _ => ?_, fun c => absurd ((nI_eq (a := x.1) (b := 10) (by omega) (by decide)).mp (Decidable.byContradiction c)) h10⟩
        refine am_run hX 17 _ _ _ _ ?_
        conv => whnf
        iterate 3
          refine ⟨hia, ?_⟩
          conv => whnf
        rw [nI_clamp (n := 300 * c + (i + m)) (by omega), show (rG N y s).1 112 (300 * c + (i + m)) = nI x.1 from o2, show (rG N y s).1 114 (300 * c + (i + m)) = nI x.2.2.1 from o4, show (rG N y s).1 115 (300 * c + (i + m)) = nI x.2.2.2.1 from o5]
        refine am_cq (ct_goT (d := d) w8 og (okB_p ho h8) hy8) ?_
        rintro q M' ⟨rfl, s', rfl⟩
        refine ⟨none, rfl, ?_⟩
        conv => whnf
        rw [nI_1]
        exact ih s' _
set_option maxRecDepth 100000 in
theorem fm_2 {n c W S i x z : Nat} {op : Nat → bk_X} {wh : Int32} (h : cir M n c W S op) (hi : i ≤ S) (hx : x < 2 ^ W) (hz : z < 2 ^ W) (hok : allN (fun j => okB (op j)) S = true) (hwh : wh = 0 ∨ wh = 1 ∨ wh = 2) : am_M (d + 4) false nm_X12_faulty [aR 108, aI (nI c), aI (nI i), aI (nI x), aI (nI z), aI wh] M (fun r M' => r = .inl (some (aI (fans wh (thq op i (x, z) (S - i))))) ∧ ∃ y s, M' = rG (th0 M) y s) := by
  have hbk := h.1
  have hn := hbk.1
  have cn := h.2.1
  have hbc := h.2.2.1
  have w8 := hbc.2.1
  have hS := hbc.2.2.1
  have h8 := w256 w8
  have hin : vp_in (nI c) 21 := vp_in_nI (by omega) (by decide)
  have hp : p8 (x, z) := ⟨(show x < 2 ^ 8 by omega), (show z < 2 ^ 8 by omega)⟩
  have h0 : cir (th0 M) n c W S op := h
  have gx := gdd_i w8 hx
  have gz := gdd_i w8 hz
  refine ⟨rfl, rfl, rfl, fun X hX => ?_⟩
  have key := fm_l (d := d) (N := th0 M) (a := nI x) (b := nI z) (u := nI (2 ^ W)) (p := (x, z)) (wh := wh) hX h0 hi hp hok (fun y s => ⟨rfl, y, s, rfl⟩) hwh (S - i) 0 ((th0 M).1 108 47) none (by omega)
  refine am_run hX 55 _ _ _ _ ?_
  conv => whnf
  refine am_c1 (bk_isc (d := d + 2) (M := th0 M) (nI c)) ?_
  rw [show (th0 M).1 108 6 = nI n from hbk.2.2.1, if_neg (bk_yes hn cn)]
  conv => whnf
  refine ⟨fun c => absurd c (by decide), fun _ => ?_⟩
  conv => whnf
  refine ⟨fun c => absurd c (nI_pos (by omega)), fun _ => ?_⟩
  conv => whnf
  refine ⟨hin, ?_⟩
  conv => whnf
  rw [nI_clamp (n := c) (by omega), show (th0 M).1 111 c = nI S from hbc.2.2.2.2.2.2.1]
  refine ⟨fun c => absurd c (nI_nlt hi (by omega)), fun _ => ?_⟩
  conv => whnf
  refine ⟨fun c => absurd c (by rcases hwh with rfl | rfl | rfl <;> decide), fun _ => ?_⟩
  conv => whnf
  refine ⟨fun _ => ?_, fun c => absurd (by rcases hwh with rfl | rfl | rfl <;> decide) c⟩
  conv => whnf
  refine ⟨hin, ?_⟩
  conv => whnf
  rw [nI_clamp (n := c) (by omega), show (th0 M).1 110 c = nI W from hbc.2.2.2.2.1, sh2 _ (by omega)]
  refine ⟨fun c => absurd c gx.1, fun _ => ?_⟩
  conv => whnf
  refine ⟨fun c => absurd c gx.2, fun _ => ?_⟩
  conv => whnf
  refine ⟨fun c => absurd c gz.1, fun _ => ?_⟩
  conv => whnf
  refine ⟨fun c => absurd c gz.2, fun _ => ?_⟩
  conv => whnf
  refine am_c1 (ct_canG (d := d) h0) ?_
  rw [hok]
  conv => whnf
  refine ⟨fun _ => ?_, fun c => absurd (by decide) c⟩
  conv => whnf
  rw [show (300 : Int32) * nI c + nI i = nI (300 * c + (i + 0)) from by rw [show (300 : Int32) = nI 300 from rfl, nI_mul, nI_add]; rfl]
  have em : mm_i (mm_i (th0 M) 108 (upd ((th0 M).1 108) 45 (nI x))) 108 (upd ((mm_i (th0 M) 108 (upd ((th0 M).1 108) 45 (nI x))).1 108) 46 (nI z)) = rG (th0 M) (x, z) ((th0 M).1 108 47) := by
    unfold rG
    rw [mm_i1, mm_ii]
    congr 1
    funext j
    unfold upd g3
    by_cases h5 : j = 45
    · subst h5; rfl
    · by_cases h6 : j = 46
      · subst h6; rfl
      · by_cases h7 : j = 47
        · subst h7; rfl
        · simp only [h5, h6, h7, if_false]
  rw [em]
  exact key
end FAM
section FAP
variable {ac : Nat → ClassId} {lo : Nat} {ad as : Nat → Nat} {b L : Nat} {xs : Nat → Int32} {hp : mm_M → Nat → xm_H} {I J : mm_M → Prop}
theorem wh_3 {wh : Int32} (h0 : ¬ wh < 0) (h2 : wh ≤ 2) : wh = 0 ∨ wh = 1 ∨ wh = 2 := by
  obtain ⟨j, hj, rfl⟩ := nI_of h0
  have : j ≤ 2 := by
    apply Decidable.byContradiction
    intro c
    exact nI_ge (a := 2) (b := j) (by omega) hj h2
  rcases (by omega : j = 0 ∨ j = 1 ∨ j = 2) with rfl | rfl | rfl
  · exact Or.inl rfl
  · exact Or.inr (Or.inl rfl)
  · exact Or.inr (Or.inr rfl)
theorem pr_faulty (H : mm_L ac lo hp) (h1 : ∀ M, I M → (∃ n, bk_iv M n ∧ ∀ c, c < n → ∃ W S op, cir M n c W S op) ∧ ∃ v, v ≤ 1 ∧ M.1 29 3 = nI v) (hJ0 : ∀ M, I M → J (th0 M)) (hJ : ∀ M y y' s, I M → J (rG (th0 (wD (n29 M) 0 y)) y' s)) (p i a e wh : Int32) : la_I ac lo ad as b L xs hp I J nm_X11_faulty nm_X12_faulty [.int p, .int i, .int a, .int e, .int wh] := by
  refine am_la_I (us := [aI p, aI i, aI a, aI e, aI wh]) H fun M hI => ?_
  obtain ⟨⟨n, hb, hc⟩, v, hv1, hv⟩ := h1 M hI
  have hn := hb.1
  rcases bk_no (p := p) hn with z | ⟨c, cn, rfl⟩
  · refine am_wk (fx_0 (d := 998) hb z) fun r M1 e => ⟨-1, e.1, ?_⟩
    rw [e.2]
    exact am_wk (fm_0 (d := 998) hb z) fun r M2 e => ⟨e.1, by rw [e.2]; exact hJ0 M hI⟩
  · obtain ⟨W, S, op, hC⟩ := hc c cn
    by_cases hno : fa_b W S op i a e wh
    · refine am_wk (fx_1 (d := 995) hC hno) fun r M1 e => ⟨-1, e.1, ?_⟩
      rw [e.2]
      exact am_wk (fm_1 (d := 996) hC hno) fun r M2 e => ⟨e.1, by rw [e.2]; exact hJ0 M hI⟩
    · have w8 := hC.2.2.1.2.1
      have hS := hC.2.2.1.2.2.1
      have i0 : ¬ i < 0 := fun z => hno (Or.inl z)
      have i1 : ¬ nI S < i := fun z => hno (Or.inr (Or.inl z))
      have wh0 : ¬ wh < 0 := fun z => hno (Or.inr (Or.inr (Or.inl z)))
      have wh2 : wh ≤ 2 := Decidable.byContradiction fun z => hno (Or.inr (Or.inr (Or.inr (Or.inl z))))
      have hok : allN (fun j => okB (op j)) S = true := by
        cases z : allN (fun j => okB (op j)) S with
        | true => rfl
        | false => exact absurd (Or.inr (Or.inr (Or.inr (Or.inr (Or.inr z))))) hno
      have g1 : gdd W a := by
        refine ⟨fun z => hno (Or.inr (Or.inr (Or.inr (Or.inr (Or.inl fun q => q.1.1 z))))), fun z => hno (Or.inr (Or.inr (Or.inr (Or.inr (Or.inl fun q => q.1.2 z)))))⟩
      have g2 : gdd W e := by
        refine ⟨fun z => hno (Or.inr (Or.inr (Or.inr (Or.inr (Or.inl fun q => q.2.1 z))))), fun z => hno (Or.inr (Or.inr (Or.inr (Or.inr (Or.inl fun q => q.2.2 z)))))⟩
      obtain ⟨x, hx, rfl⟩ := gdd_n w8 g1
      obtain ⟨z, hz, rfl⟩ := gdd_n w8 g2
      obtain ⟨i, hi, rfl⟩ := nI_of i0
      have his : i ≤ S := by
        apply Decidable.byContradiction
        intro c
        exact i1 (nI_lt (by omega) hi)
      have hwh := wh_3 wh0 wh2
      refine am_wk (fx_2 (d := 994) hC his hx hz hok hv hv1 hwh) ?_
      rintro r M1 ⟨rfl, y, rfl⟩
      refine ⟨_, rfl, ?_⟩
      have hC1 : cir (wD (n29 M) 0 y) n c W S op := hC
      refine am_wk (fm_2 (d := 996) hC1 his hx hz hok hwh) ?_
      rintro r M2 ⟨rfl, y', s, rfl⟩
      exact ⟨rfl, hJ M y y' s hI⟩
end FAP
