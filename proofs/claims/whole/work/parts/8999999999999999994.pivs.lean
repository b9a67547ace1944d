/-! DIAGRAMS: pivot at the reference, whole -/
theorem rem_4 {n : Nat} (h : n < 8) : nI n - nI n / 4 * 4 = nI (n % 4) := by
  have : ∀ n, n < 8 → nI n - nI n / 4 * 4 = nI (n % 4) := by decide +kernel
  exact this n h
section PVT
variable {d m inp a b i : Nat} {N : mm_M} {W : WB}
set_option maxRecDepth 100000 in
theorem pg_156 {s k : Nat} {l5 l6 : Option am_V} {Pp : am_Q} {X : am_X} (hX : am_K (d + 1) false nm_X12_pivot Pp X) (hi : i < 60) (hK : X 162 [some (aR 108), some (aI (nI a)), some (aI (nI b)), some (aI (nI i)), some (aI (nI s)), some (aI (nI 0)), l6] [] (grR N i k)) : X 156 [some (aR 108), some (aI (nI a)), some (aI (nI b)), some (aI (nI i)), some (aI (nI s)), l5, l6] [aI (nI k), aI (nI i), aR 108] N := by
  refine am_run hX 3 _ _ _ _ ?_
  conv => whnf
  refine am_c0 (ct_grR0 (d := d) (a := i) (k := k) hi) ?_
  conv => whnf
  exact hK
set_option maxRecDepth 100000 in
theorem pg_99 {s pa pb : Nat} {l5 l6 : Option am_V} {Pp : am_Q} {X : am_X} (hX : am_K (d + 1) false nm_X12_pivot Pp X) (hs : s ≤ 3) (hi : i < 60) (la : a < 60) (lb : b < 60) (ha : N.1 170 a = nI pa) (hb : N.1 170 b = nI pb) (hK : X 162 [some (aR 108), some (aI (nI a)), some (aI (nI b)), some (aI (nI i)), some (aI (nI s)), some (aI (nI 0)), l6] [] (grR N i (if s = 1 then pb else if s = 2 then pa else if s = 3 then pa + pb + 4 else 0))) : X 99 [some (aR 108), some (aI (nI a)), some (aI (nI b)), some (aI (nI i)), some (aI (nI s)), l5, l6] [] N := by
  have hA : vp_in (nI a) 60 := vp_in_nI la (by decide)
  have hB : vp_in (nI b) 60 := vp_in_nI lb (by decide)
  rcases b_s4 hs with rfl | rfl | rfl | rfl
  · refine am_run hX 5 _ _ _ _ ?_
    conv => whnf
    refine ⟨fun _ => ?_, fun c => absurd (by decide) c⟩
    refine am_run hX 3 _ _ _ _ ?_
    conv => whnf
    refine ⟨fun _ => ?_, fun c => absurd (by decide) c⟩
    refine am_run hX 3 _ _ _ _ ?_
    conv => whnf
    refine ⟨fun _ => ?_, fun c => absurd (by decide) c⟩
    refine am_run hX 1 _ _ _ _ ?_
    conv => whnf
    exact pg_156 (d := d) (k := 0) hX hi hK
  · refine am_run hX 5 _ _ _ _ ?_
    conv => whnf
    refine ⟨fun c => absurd rfl c, fun _ => ?_⟩
    refine am_run hX 5 _ _ _ _ ?_
    conv => whnf
    refine ⟨hB, ?_⟩
    conv => whnf
    rw [nI_clamp (n := b) (by omega), hb]
    exact pg_156 (d := d) (k := pb) hX hi hK
  · refine am_run hX 5 _ _ _ _ ?_
    conv => whnf
    refine ⟨fun _ => ?_, fun c => absurd (by decide) c⟩
    refine am_run hX 3 _ _ _ _ ?_
    conv => whnf
    refine ⟨fun c => absurd rfl c, fun _ => ?_⟩
    refine am_run hX 5 _ _ _ _ ?_
    conv => whnf
    refine ⟨hA, ?_⟩
    conv => whnf
    rw [nI_clamp (n := a) (by omega), ha]
    exact pg_156 (d := d) (k := pa) hX hi hK
  · refine am_run hX 5 _ _ _ _ ?_
    conv => whnf
    refine ⟨fun _ => ?_, fun c => absurd (by decide) c⟩
    refine am_run hX 3 _ _ _ _ ?_
    conv => whnf
    refine ⟨fun _ => ?_, fun c => absurd (by decide) c⟩
    refine am_run hX 3 _ _ _ _ ?_
    conv => whnf
    refine ⟨fun c => absurd rfl c, fun _ => ?_⟩
    refine am_run hX 12 _ _ _ _ ?_
    conv => whnf
    refine ⟨hA, ?_⟩
    conv => whnf
    refine ⟨hB, ?_⟩
    conv => whnf
    rw [nI_clamp (n := a) (by omega), nI_clamp (n := b) (by omega), ha, hb, show (4 : Int32) = nI 4 from rfl, nI_add, nI_add]
    exact pg_156 (d := d) (k := pa + pb + 4) hX hi hK
set_option maxRecDepth 100000 in
theorem pr_i {N0 : mm_M} {Pp : am_Q} {X : am_X} (hX : am_K (d + 2) false nm_X12_pivot Pp X) (g : gdW m inp W) (ta : W.1 a = true) (tb : W.1 b = true) (hn : npP W a b) (hK : ∀ N l4 l5 l6, rwF N0 N → rwR N inp (prW W a b (Dr (sdW W a b) 60 0) 60) → X 215 [some (aR 108), some (aI (nI a)), some (aI (nI b)), some (aI (nI 60)), l4, l5, l6] [] N) : ∀ w i N l4 l5 l6, i + w = 60 → rwF N0 N → rwR N inp (prW W a b (Dr (sdW W a b) i 0) i) → X 84 [some (aR 108), some (aI (nI a)), some (aI (nI b)), some (aI (nI i)), l4, l5, l6] [] N := by
  have m60 := g.1
  have la := g.2.2.2.2.1 a ta
  have lb := g.2.2.2.2.1 b tb
  intro w
  induction w with
  | zero =>
    intro i N l4 l5 l6 hi hf h
    have hi : i = 60 := by omega
    subst hi
    refine am_run hX 3 _ _ _ _ ?_
    conv => whnf
    exact ⟨fun _ => hK N _ _ _ hf h, fun c => absurd (by decide) c⟩
  | succ w ih =>
    intro i N l4 l5 l6 hi hf h
    have gi := pr_gd (n := i) g (okD_r (W := W) (a := a) (b := b) (i := i) (j := 0))
    have k := ct_sdR (d := d) (i := i) (a := a) (b := b) h gi.2.2.2.2.2.2.2.2.1 (by omega) (by omega) (by omega)
    rw [sd_pr okD_r] at k
    have qa := h.2.2.2.1 a ta
    have qb := h.2.2.2.1 b tb
    rw [ph_pr g ta sd_a] at qa
    rw [ph_pr g tb sd_b] at qb
    have nx : ∀ N' l4 l5 l6, rwF N0 N' → rwR N' inp (prW W a b (Dr (sdW W a b) i i) (i + 1)) → X 209 [some (aR 108), some (aI (nI a)), some (aI (nI b)), some (aI (nI i)), l4, l5, l6] [] N' := fun N' l4 l5 l6 f' h' => by
      refine am_run hX 2 _ _ _ _ ?_
      conv => whnf
      rw [nI_1]
      refine ih (i + 1) N' _ _ _ (by omega) f' ?_
      have e : prW W a b (Dr (sdW W a b) (i + 1) 0) (i + 1) = prW W a b (Dr (sdW W a b) i i) (i + 1) := by
        show (_, _, tgE _ _) = (_, _, tgE _ _)
        rw [tg_c Dr_e]
      rw [e]
      exact h'
    refine am_run hX 3 _ _ _ _ ?_
    conv => whnf
    refine ⟨fun c => absurd c (nI_ge (a := i) (b := 60) (by omega) (by decide)), fun _ => ?_⟩
    refine am_run hX 6 _ _ _ _ ?_
    conv => whnf
    refine am_c1 k ?_
    conv => whnf
    have h1 := rwR_gr (a := i) (k := amW W a b i) h
    have e1 : ((prW W a b (Dr (sdW W a b) i 0) i).1, grw (prW W a b (Dr (sdW W a b) i 0) i).2.1 i (amW W a b i), (prW W a b (Dr (sdW W a b) i 0) i).2.2) = prW W a b (Dr (sdW W a b) i 0) (i + 1) := Prod.ext rfl (Prod.ext pvP_s rfl)
    rw [e1] at h1
    refine pg_99 (d := d + 1) (pa := W.2.1 a) (pb := W.2.1 b) hX sd_le (by omega) (by omega) (by omega) qa qb ?_
    show X 162 _ _ (grR N i (amW W a b i))
    by_cases z : sdW W a b i = 0
    · have fin : X 209 [some (aR 108), some (aI (nI a)), some (aI (nI b)), some (aI (nI i)), some (aI (nI (sdW W a b i))), some (aI (nI 0)), l6] [] (grR N i (amW W a b i)) := by
        refine nx _ _ _ _ (rwF_t hf rwF_gr) ?_
        have e : prW W a b (Dr (sdW W a b) i i) (i + 1) = prW W a b (Dr (sdW W a b) i 0) (i + 1) := by
          show (_, _, tgE _ _) = (_, _, tgE _ _)
          rw [tg_c (Dr_0 z i)]
        rw [e]
        exact h1
      refine am_run hX 3 _ _ _ _ ?_
      conv => whnf
      refine ⟨fun _ => fin, fun _ => ?_⟩
      refine am_run hX 2 _ _ _ _ ?_
      conv => whnf
      exact ⟨fun _ => fin, fun c => absurd (by rw [z]; decide) c⟩
    · exact pr_j (d := d) (N0 := N0) hX g (by omega) (by omega) hn (by omega) z (fun N' l5 l6 f' h' => nx N' _ _ _ f' h') i 0 _ _ (by omega) (rwF_t hf rwF_gr) h1
theorem Dr_end {s : Nat → Nat} {x y : Nat} (hx : x < 60) (hy : y < 60) : Dr s 60 0 x y = decide (dfS s x y) := by
  unfold Dr
  rw [decide_eq_decide]
  constructor
  · exact fun h => h.1
  · intro h
    refine ⟨h, ?_⟩
    rcases Nat.lt_trichotomy x y with k | k | k
    · exact Or.inr (Or.inl ⟨hy, k⟩)
    · rw [k] at h
      exact absurd rfl h.2.2
    · exact Or.inl ⟨hx, k⟩
theorem rwR_c {V V' : WB} (h : rwR N inp V) (h1 : V.1 = V'.1) (h2 : ∀ i, V'.1 i = true → V.2.1 i = V'.2.1 i) (h3 : ∀ i j, i < 60 → j < 60 → V.2.2 i j = V'.2.2 i j) : rwR N inp V' := by
  obtain ⟨k1, k2, k3, k4, k5⟩ := h
  refine ⟨k1, k2, fun i hi => ?_, fun i hi => ?_, fun i j hi hj => ?_⟩
  · rw [← h1]
    exact k3 i hi
  · rw [← h2 i hi]
    exact k4 i (by rw [h1]; exact hi)
  · rw [← h3 i j hi hj]
    exact k5 i j hi hj
theorem pv_end (g : gdW m inp W) (h : rwR N inp (rm2 (prW W a b (Dr (sdW W a b) 60 0) 60) a b)) : rwR N inp (pvW W a b m) := by
  have m60 := g.1
  refine rwR_c h rfl (fun i hi => ?_) (fun x y hx hy => ?_)
  · have hi : (rm2 W a b).1 i = true := hi
    have ti : W.1 i = true := by
      have hi : (if i = b then false else if i = a then false else W.1 i) = true := hi
      by_cases e1 : i = b
      · rw [if_pos e1] at hi
        exact absurd hi (by decide)
      · rw [if_neg e1] at hi
        by_cases e2 : i = a
        · rw [if_pos e2] at hi
          exact absurd hi (by decide)
        · rw [if_neg e2] at hi
          exact hi
    have := g.2.2.2.2.1 i ti
    show pvP W.2.1 (amW W a b) 60 i = pvP W.2.1 (amW W a b) m i
    unfold pvP
    rw [if_pos (by omega), if_pos (by omega)]
  · show (if x = b ∨ y = b then 0 else if x = a ∨ y = a then 0 else tgE W.2.2 (Dr (sdW W a b) 60 0) x y) = tgE (rm2 W a b).2.2 (fun x y => decide (dfS (sdW W a b) x y)) x y
    have dd := Dr_end (s := sdW W a b) hx hy
    by_cases e1 : x = b ∨ y = b
    · rw [if_pos e1, tg_f (decide_eq_false (by
        rintro ⟨h1, h2, _⟩
        rcases e1 with e | e
        · rw [e] at h1
          exact h1 sd_b
        · rw [e] at h2
          exact h2 sd_b))]
      show 0 = if x = b ∨ y = b then 0 else _
      rw [if_pos e1]
    · rw [if_neg e1]
      by_cases e2 : x = a ∨ y = a
      · rw [if_pos e2, tg_f (decide_eq_false (by
          rintro ⟨h1, h2, _⟩
          rcases e2 with e | e
          · rw [e] at h1
            exact h1 sd_a
          · rw [e] at h2
            exact h2 sd_a))]
        show 0 = if x = b ∨ y = b then 0 else if x = a ∨ y = a then 0 else _
        rw [if_neg e1, if_pos e2]
      · rw [if_neg e2]
        have e3 : (rm2 W a b).2.2 x y = W.2.2 x y := rm2_E (fun z => e2 (Or.inl z)) (fun z => e1 (Or.inl z)) (fun z => e2 (Or.inr z)) (fun z => e1 (Or.inr z))
        unfold tgE
        rw [dd, e3]
set_option maxRecDepth 100000 in
theorem pt_r {Pp : am_Q} {X : am_X} (hX : am_K (d + 3) false nm_X12_pivot Pp X) (h : rwR N inp W) (g : gdW m inp W) (he : edW inp W 2 a b) (hN : ¬ pvOK inp W a b → Pp (.inl (some (aI 0))) N) (hK : pvOK inp W a b → X 82 [some (aR 108), some (aI (nI a)), some (aI (nI b)), none, none, none, none] [] N) : X 31 [some (aR 108), some (aI (nI a)), some (aI (nI b)), none, none, none, none] [] N := by
  have he0 := he
  obtain ⟨ia, ib, hab, e2⟩ := he
  have m60 := g.1
  have la := g.2.2.2.2.1 a ia.1
  have lb := g.2.2.2.2.1 b ib.1
  have pa := g.2.2.2.2.2.2.2.2.2.2 a ia.1
  have pb := g.2.2.2.2.2.2.2.2.2.2 b ib.1
  have hA : vp_in (nI a) 60 := vp_in_nI (by omega) (by decide)
  have hB : vp_in (nI b) 60 := vp_in_nI (by omega) (by decide)
  have n53 : ¬ pvOK inp W a b → X 53 [some (aR 108), some (aI (nI a)), some (aI (nI b)), none, none, none, none] [] N := fun hq => by
    refine am_run hX 2 _ _ _ _ ?_
    conv => whnf
    exact ⟨rfl, hN hq⟩
  have n80 : ¬ pvOK inp W a b → X 80 [some (aR 108), some (aI (nI a)), some (aI (nI b)), none, none, none, none] [] N := fun hq => by
    refine am_run hX 2 _ _ _ _ ?_
    conv => whnf
    exact ⟨rfl, hN hq⟩
  have k71 : W.2.1 a % 4 = 0 → W.2.1 b % 4 = 0 → fsP inp W a → fsP inp W b → X 71 [some (aR 108), some (aI (nI a)), some (aI (nI b)), none, none, none, none] [] N := fun p1 p2 f1 f2 => by
    refine am_run hX 5 _ _ _ _ ?_
    conv => whnf
    refine am_cq (ct_npR (d := d) h g (by omega) (by omega)) ?_
    rintro r N1 ⟨rfl, ⟨hf, rfl⟩ | ⟨hf, rfl⟩⟩
    · refine ⟨_, rfl, ?_⟩
      conv => whnf
      exact ⟨fun _ => hK ⟨he0, p1, p2, f1, f2, hf⟩, fun c => absurd (by decide) c⟩
    · refine ⟨_, rfl, ?_⟩
      conv => whnf
      exact ⟨fun c => absurd rfl c, fun _ => n80 fun y => hf y.2.2.2.2.2⟩
  have k63 : W.2.1 a % 4 = 0 → W.2.1 b % 4 = 0 → fsP inp W a → X 63 [some (aR 108), some (aI (nI a)), some (aI (nI b)), none, none, none, none] [] N := fun p1 p2 f1 => by
    refine am_run hX 4 _ _ _ _ ?_
    conv => whnf
    refine am_cq (ct_fsR (d := d) h g (by omega)) ?_
    rintro r N1 ⟨rfl, ⟨hf, rfl⟩ | ⟨hf, rfl⟩⟩
    · refine ⟨_, rfl, ?_⟩
      conv => whnf
      exact ⟨fun c => absurd c (by decide), fun _ => k71 p1 p2 f1 hf⟩
    · refine ⟨_, rfl, ?_⟩
      conv => whnf
      exact ⟨fun _ => n80 fun y => hf y.2.2.2.2.1, fun c => absurd rfl c⟩
  have k55 : W.2.1 a % 4 = 0 → W.2.1 b % 4 = 0 → X 55 [some (aR 108), some (aI (nI a)), some (aI (nI b)), none, none, none, none] [] N := fun p1 p2 => by
    refine am_run hX 4 _ _ _ _ ?_
    conv => whnf
    refine am_cq (ct_fsR (d := d) h g (by omega)) ?_
    rintro r N1 ⟨rfl, ⟨hf, rfl⟩ | ⟨hf, rfl⟩⟩
    · refine ⟨_, rfl, ?_⟩
      conv => whnf
      exact ⟨fun c => absurd c (by decide), fun _ => k63 p1 p2 hf⟩
    · refine ⟨_, rfl, ?_⟩
      conv => whnf
      exact ⟨fun _ => n80 fun y => hf y.2.2.2.1, fun c => absurd rfl c⟩
  refine am_run hX 7 _ _ _ _ ?_
  conv => whnf
  refine ⟨hA, ?_⟩
  conv => whnf
  refine ⟨by decide, ?_⟩
  conv => whnf
  rw [nI_clamp (n := a) (by omega), h.2.2.2.1 a ia.1, rem_4 pa]
  by_cases p1 : W.2.1 a % 4 = 0
  · rw [p1]
    refine ⟨fun c => absurd rfl c, fun _ => ?_⟩
    refine am_run hX 7 _ _ _ _ ?_
    conv => whnf
    refine ⟨hB, ?_⟩
    conv => whnf
    refine ⟨by decide, ?_⟩
    conv => whnf
    rw [nI_clamp (n := b) (by omega), h.2.2.2.1 b ib.1, rem_4 pb]
    by_cases p2 : W.2.1 b % 4 = 0
    · rw [p2]
      exact ⟨fun _ => k55 p1 p2, fun c => absurd rfl c⟩
    · exact ⟨fun c => absurd c (nI_ne0 (by omega) (by omega)), fun _ => n53 fun y => p2 y.2.2.1⟩
  · exact ⟨fun _ => n53 fun y => p1 y.2.1, fun c => absurd (nI_ne0 (by omega) (by omega)) c⟩
set_option maxRecDepth 100000 in
theorem ct_pvR {p q : Int32} (h : rwR N inp W) (g : gdW m inp W) : am_M (d + 4) false nm_X12_pivot [aR 108, aI p, aI q] N (ruR N inp (∃ a b, p = nI a ∧ q = nI b ∧ pvOK inp W a b) (pvV inp m W p q)) := by
  have m60 := g.1
  refine ⟨rfl, rfl, rfl, fun X hX => pi_r (d := d + 1) hX h g (fun hno => ?_) (fun a b ea eb he => ?_)⟩
  · refine am_run hX 2 _ _ _ _ ?_
    conv => whnf
    exact ⟨rfl, Or.inl ⟨fun ⟨a, b, e1, e2, y⟩ => hno ⟨a, b, e1, e2, y.1⟩, rfl, rfl⟩⟩
  · subst ea
    subst eb
    have la := g.2.2.2.2.1 a he.1.1
    have lb := g.2.2.2.2.1 b he.2.1.1
    refine pt_r (d := d) hX h g he (fun hq => Or.inl ⟨fun ⟨a', b', e1, e2, y⟩ => hq ?_, rfl, rfl⟩) (fun ok => ?_)
    · have l1 := g.2.2.2.2.1 a' y.1.1.1
      have l2 := g.2.2.2.2.1 b' y.1.2.1.1
      rw [(nI_eq (by omega) (by omega)).mp e1, (nI_eq (by omega) (by omega)).mp e2]
      exact y
    · refine am_run hX 2 _ _ _ _ ?_
      conv => whnf
      have z0 : prW W a b (Dr (sdW W a b) 0 0) 0 = W := by
        refine Prod.ext rfl (Prod.ext (pvP_0 (ph := W.2.1) (amt := amW W a b)) (tg_0 fun x y => decide_eq_false ?_))
        rintro ⟨_, ⟨k, _⟩ | ⟨k, _⟩ | ⟨_, k, _⟩ | ⟨_, k, _⟩⟩
        · exact Nat.not_lt_zero _ k
        · exact Nat.not_lt_zero _ k
        · exact Nat.not_lt_zero _ k
        · exact Nat.not_lt_zero _ k
      refine pr_i (d := d + 1) (N0 := N) hX g he.1.1 he.2.1.1 ok.2.2.2.2.2 (fun N1 l4 l5 l6 f1 h1 => ?_) 60 0 N _ _ _ (by omega) (rwF_r N) (by rw [z0]; exact h)
      refine am_run hX 8 _ _ _ _ ?_
      conv => whnf
      refine am_cq (ct_rmR (d := d + 1) (a := a) h1 (by omega)) ?_
      rintro r N2 ⟨rfl, f2, h2⟩
      refine ⟨none, rfl, ?_⟩
      conv => whnf
      refine am_cq (ct_rmR (d := d + 1) (a := b) h2 (by omega)) ?_
      rintro r N3 ⟨rfl, f3, h3⟩
      refine ⟨none, rfl, ?_⟩
      conv => whnf
      exact ⟨rfl, Or.inr ⟨⟨a, b, rfl, rfl, ok⟩, rfl, rwF_t f1 (rwF_t f2 f3), _, ⟨a, b, rfl, rfl, ok, rfl⟩, pv_end g h3⟩⟩
end PVT
