/-! THE PAIR term: the reference, and the pair -/
section TR3
variable {d : Nat} {M : mm_M} {a b : Nat} {A B : SU}
set_option maxRecDepth 100000 in
theorem tem_n {x z p q : Int32} {Pp : am_Q} {Z : am_X} (hZ : am_K d false nm_X12_term Pp Z) (hP : Pp (.inl (some (aI (-1)))) M) : Z 44 [some (aR 108), some (aI x), some (aI z), some (aI p), some (aI q)] [] M := by
  refine am_run hZ 2 _ _ _ _ ?_
  conv => whnf
  exact ⟨trivial, hP⟩
set_option maxRecDepth 100000 in
theorem tem_f2 {x z p q : Int32} {bq : Bool} {Pp : am_Q} {Z : am_X} (hZ : am_K (d + 1) false nm_X12_term Pp Z) (kq : am_M (d + 1) false nm_X12_isSmall [aJ q.toInt64] M (am_q1 (aI (b01 bq)) M)) (hP : ¬ bq = true → Z 44 [some (aR 108), some (aI x), some (aI z), some (aI p), some (aI q)] [] M) (hK : bq = true → Z 46 [some (aR 108), some (aI x), some (aI z), some (aI p), some (aI q)] [] M) : Z 35 [some (aR 108), some (aI x), some (aI z), some (aI p), some (aI q)] [] M := by
  refine am_run hZ 4 _ _ _ _ ?_
  conv => whnf
  refine am_c1 kq ?_
  cases bq with
  | false =>
    conv => whnf
    refine ⟨fun c => absurd rfl c, fun _ => ?_⟩
    exact hP (by decide)
  | true =>
    conv => whnf
    refine ⟨fun _ => ?_, fun c => absurd (by decide) c⟩
    exact hK rfl
set_option maxRecDepth 100000 in
theorem tem_f1 {x z p q : Int32} {bp : Bool} {Pp : am_Q} {Z : am_X} (hZ : am_K (d + 1) false nm_X12_term Pp Z) (kp : am_M (d + 1) false nm_X12_isSmall [aJ p.toInt64] M (am_q1 (aI (b01 bp)) M)) (hP : ¬ bp = true → Z 44 [some (aR 108), some (aI x), some (aI z), some (aI p), some (aI q)] [] M) (hK : bp = true → Z 35 [some (aR 108), some (aI x), some (aI z), some (aI p), some (aI q)] [] M) : Z 27 [some (aR 108), some (aI x), some (aI z), some (aI p), some (aI q)] [] M := by
  refine am_run hZ 4 _ _ _ _ ?_
  conv => whnf
  refine am_c1 kp ?_
  cases bp with
  | false =>
    conv => whnf
    refine ⟨fun _ => ?_, fun c => absurd rfl c⟩
    exact hP (by decide)
  | true =>
    conv => whnf
    refine ⟨fun c => absurd c (by decide), fun _ => ?_⟩
    exact hK rfl
set_option maxRecDepth 100000 in
theorem tem_b {x z p q : Int32} {Pp : am_Q} {Z : am_X} (hZ : am_K d false nm_X12_term Pp Z) (hP : ¬ (¬ x < 0 ∧ ¬ 255 < x ∧ ¬ z < 0 ∧ ¬ 255 < z) → Pp (.inl (some (aI (-1)))) (th0 M)) (hK : ¬ x < 0 → ¬ 255 < x → ¬ z < 0 → ¬ 255 < z → Z 27 [some (aR 108), some (aI x), some (aI z), some (aI p), some (aI q)] [] (th0 M)) : Z 0 [some (aR 108), some (aI x), some (aI z), some (aI p), some (aI q)] [] M := by
  refine am_run hZ 5 _ _ _ _ ?_
  conv => whnf
  refine ⟨fun c => tem_n hZ (hP fun y => y.1 c), fun c1 => ?_⟩
  refine am_run hZ 3 _ _ _ _ ?_
  conv => whnf
  refine ⟨fun c => tem_n hZ (hP fun y => y.2.1 c), fun c2 => ?_⟩
  refine am_run hZ 2 _ _ _ _ ?_
  conv => whnf
  refine ⟨fun c => tem_n hZ (hP fun y => y.2.2.1 c), fun c3 => ?_⟩
  refine am_run hZ 3 _ _ _ _ ?_
  conv => whnf
  refine ⟨fun c => tem_n hZ (hP fun y => y.2.2.2 c), fun c4 => ?_⟩
  exact hK c1 c2 c3 c4
theorem tem_f {x z p q : Int32} {bp bq : Bool} {Pp : am_Q} {Z : am_X} (hZ : am_K (d + 1) false nm_X12_term Pp Z) (kp : am_M (d + 1) false nm_X12_isSmall [aJ p.toInt64] M (am_q1 (aI (b01 bp)) M)) (kq : am_M (d + 1) false nm_X12_isSmall [aJ q.toInt64] M (am_q1 (aI (b01 bq)) M)) (hP : ¬ (bp = true ∧ bq = true) → Pp (.inl (some (aI (-1)))) M) (hK : bp = true → bq = true → Z 46 [some (aR 108), some (aI x), some (aI z), some (aI p), some (aI q)] [] M) : Z 27 [some (aR 108), some (aI x), some (aI z), some (aI p), some (aI q)] [] M := tem_f1 hZ kp (fun h => tem_n hZ (hP fun z => h z.1)) fun h1 => tem_f2 hZ kq (fun h => tem_n hZ (hP fun z => h z.2)) fun h2 => hK h1 h2
set_option maxRecDepth 100000 in
theorem tem_0 {x z p q : Int32} (h : teB x z p q) : am_M (d + 2) false nm_X12_term [aR 108, aI x, aI z, aI p, aI q] M (am_q1 (aI (-1)) (th0 M)) := by
  refine ⟨rfl, rfl, rfl, fun Z hZ => tem_b hZ (fun _ => ⟨rfl, rfl⟩) fun c1 c2 c3 c4 => tem_f (d := d) hZ ct_small ct_small (fun _ => ⟨rfl, rfl⟩) fun hp hq => ?_⟩
  unfold teB at h
  rw [hp, hq] at h
  rcases h with h | h | h | h | h | h
  · exact absurd h c1
  · exact absurd h c2
  · exact absurd h c3
  · exact absurd h c4
  · exact absurd h (by decide)
  · exact absurd h (by decide)
theorem tem_t {x z : Nat} {p q : Int32} {Pp : am_Q} {Z : am_X} (hZ : am_K (d + 1) false nm_X12_term Pp Z) (hx : x < 256) (hz : z < 256) (hp : smJ p.toInt64 = true) (hq : smJ q.toInt64 = true) (hK : Z 46 [some (aR 108), some (aI (nI x)), some (aI (nI z)), some (aI p), some (aI q)] [] (th0 M)) : Z 0 [some (aR 108), some (aI (nI x)), some (aI (nI z)), some (aI p), some (aI q)] [] M := tem_b hZ (fun c => absurd ⟨nI_pos (by omega), nI_nlt (a := 255) (b := x) (by omega) (by decide), nI_pos (by omega), nI_nlt (a := 255) (b := z) (by omega) (by decide)⟩ c) fun _ _ _ _ => tem_f (d := d) hZ ct_small ct_small (fun c => absurd ⟨hp, hq⟩ c) fun _ _ => hK
set_option maxRecDepth 100000 in
theorem tem_2 {x z : Nat} (r1 : rsS M 0 A) (hx : x < 256) (hz : z < 256) : am_M (d + 2) false nm_X12_term [aR 108, aI (nI x), aI (nI z), aI 0, aI 0] M (am_q1 (aI (nI A.1)) (th0 M)) := by
  have h0 : vp_in 0 2 := vp_in_nI (n := 0) (N := 2) (by decide) (by decide)
  refine ⟨rfl, rfl, rfl, fun Z hZ => tem_t (d := d) hZ hx hz (by decide) (by decide) ?_⟩
  refine am_run hZ 20 _ _ _ _ ?_
  conv => whnf
  refine ⟨fun c => absurd rfl c, fun _ => ?_⟩
  conv => whnf
  refine ⟨fun c => absurd rfl c, fun _ => ?_⟩
  conv => whnf
  refine ⟨h0, ?_⟩
  conv => whnf
  rw [show (th0 M).1 141 (Int32.toNatClampNeg 0) = nI A.1 from r1.1]
  exact ⟨trivial, rfl, rfl⟩
set_option maxRecDepth 100000 in
theorem tem_1 {x z c : Nat} {p q : Int32} {κ : Nat → Nat} (r1 : rsS M 0 A) (oA : orS A) (hw : wkM M) (hx : x < 256) (hz : z < 256) (hp : smJ p.toInt64 = true) (hq : smJ q.toInt64 = true) (hpq : ¬ (p = 0 ∧ q = 0)) (he : ¬ 21 < A.2.1 → enX (suP A.2.1 1 A (oneT (256 * x + z) p q)) (suQ A.2.1 1 A (oneT (256 * x + z) p q)) c κ) : am_M (d + 4) false nm_X12_term [aR 108, aI (nI x), aI (nI z), aI p, aI q] M (fun r M' => (21 < A.2.1 ∧ r = .inl (some (aI (-1))) ∧ M' = th0 M) ∨ (¬ 21 < A.2.1 ∧ ssE (th0 M) (suP A.2.1 1 A (oneT (256 * x + z) p q)) (suQ A.2.1 1 A (oneT (256 * x + z) p q)) A.2.1 c κ r M')) := by
  have h0 : vp_in 0 2 := vp_in_nI (n := 0) (N := 2) (by decide) (by decide)
  have u1 := oA.2.1
  have t1 := oA.1
  obtain ⟨n0, kk0, hn0, hw⟩ := wkM_th hw
  have r1 : rsS (th0 M) 0 A := rsS_th r1
  refine ⟨rfl, rfl, rfl, fun Z hZ => tem_t (d := d + 2) hZ hx hz hp hq ?_⟩
  generalize th0 M = N at *
  have k62 : Z 62 [some (aR 108), some (aI (nI x)), some (aI (nI z)), some (aI p), some (aI q)] [] N := by
    refine am_run hZ 6 _ _ _ _ ?_
    conv => whnf
    refine ⟨h0, ?_⟩
    conv => whnf
    rw [show N.1 142 (Int32.toNatClampNeg 0) = nI A.2.1 from r1.2.1]
    by_cases h21 : 21 < A.2.1
    · refine ⟨fun z => absurd z (nI_ge (a := 21) (b := A.2.1) h21 (by omega)), fun _ => ?_⟩
      refine am_run hZ 2 _ _ _ _ ?_
      conv => whnf
      exact ⟨trivial, Or.inl ⟨h21, rfl, rfl⟩⟩
    · have he := he h21
      refine ⟨fun _ => ?_, fun z => absurd (nI_le (a := A.2.1) (b := 21) (by omega) (by decide)) z⟩
      refine am_run hZ 10 _ _ _ _ ?_
      conv => whnf
      have hcl := ct_clrR (d := d + 2) (M := N) hw
      rw [wF_self hn0] at hcl
      refine am_cq hcl ?_
      rintro r M' ⟨rfl, tc, fc, gc, hz0, rfl⟩
      refine ⟨none, rfl, ?_⟩
      conv => whnf
      refine ⟨h0, ?_⟩
      conv => whnf
      rw [show (wF N 0 (N.1 149) tc fc gc).1 142 (Int32.toNatClampNeg 0) = nI A.2.1 from r1.2.1]
      refine am_cq (ct_bring (d := d + 1) (M := N) (x := 0) (s := A.1) (h := A.2.1) (o := 150 * 0) (κ := A.2.2.1) (R := A.2.2.2.1) (I := A.2.2.2.2) (ov := A.2.1) (sg := 1) (kk := fun _ => 0) (by decide) t1 rfl r1.1 r1.2.1 (by omega) (by omega) (rs_k r1 oA) (by omega) (wkO_0 hz0)) ?_
      rintro r M' ⟨rfl, n2, q2, t2, kk2, hn2, hw2, rfl⟩
      refine ⟨none, rfl, ?_⟩
      conv => whnf
      refine am_run hZ 40 _ _ _ _ ?_
      conv => whnf
      refine ⟨h0, ?_⟩
      conv => whnf
      refine ⟨h0, ?_⟩
      conv => whnf
      generalize hf1 : brF A.2.2.1 ((1 : Int32).toInt64 <<< ((nI (A.2.1 - A.2.1)).toInt64 &&& 63)) A.2.2.2.1 fc A.1 = f1 at *
      generalize hg1 : brF A.2.2.1 ((1 : Int32).toInt64 <<< ((nI (A.2.1 - A.2.1)).toInt64 &&& 63)) A.2.2.2.2 gc A.1 = g1 at *
      rw [show (256 : Int32) = nI 256 from rfl, nI_mul, nI_add, show ∀ f g, (wF N n2 q2 t2 f g).1 142 (Int32.toNatClampNeg 0) = nI A.2.1 from fun _ _ => r1.2.1]
      refine am_cq (ct_workR (d := d + 2) (M := N) (k := 256 * x + z) hw2 (by omega) (by omega)) ?_
      rintro r M' ⟨rfl, n3, q3, t3, kk3, hn3, hw3, rfl⟩
      refine ⟨none, rfl, ?_⟩
      conv => whnf
      refine ⟨h0, ?_⟩
      conv => whnf
      rw [show ∀ f g, (wF N n3 q3 t3 f g).1 142 (Int32.toNatClampNeg 0) = nI A.2.1 from fun _ _ => r1.2.1]
      refine am_cq (ct_ssumR (d := d) (M := N) hw3 (over := A.2.1) (by omega) ?_ he) ?_
      · intro y hy
        have b1 : f1 y = shA (A.2.1 - A.2.1) * lkp A.2.2.1 A.2.2.2.1 A.1 y := by
          rw [← hf1, brF_l A.1 (ris_i oA.2.2.1), (hz0 y hy).2.1, Int64.zero_add]
          rfl
        have b2 : g1 y = shA (A.2.1 - A.2.1) * lkp A.2.2.1 A.2.2.2.2 A.1 y := by
          rw [← hg1, brF_l A.1 (ris_i oA.2.2.1), (hz0 y hy).2.2, Int64.zero_add]
          rfl
        show vp_updL f1 (256 * x + z) _ y = shA (A.2.1 - A.2.1) * lkp A.2.2.1 A.2.2.2.1 A.1 y + (1 : Int32).toInt64 <<< ((nI (A.2.1 - 0)).toInt64 &&& 63) * lkp (fun _ => 256 * x + z) (fun _ => p) 1 y ∧ vp_updL g1 (256 * x + z) _ y = shA (A.2.1 - A.2.1) * lkp A.2.2.1 A.2.2.2.2 A.1 y + (1 : Int32).toInt64 <<< ((nI (A.2.1 - 0)).toInt64 &&& 63) * lkp (fun _ => 256 * x + z) (fun _ => q) 1 y
        rw [← b1, ← b2, show A.2.1 - 0 = A.2.1 from rfl]
        unfold vp_updL
        by_cases e : y = 256 * x + z
        · rw [if_pos e, if_pos e, ← e, show lkp (fun _ => y) (fun _ => p) 1 y = p.toInt64 from if_pos rfl, show lkp (fun _ => y) (fun _ => q) 1 y = q.toInt64 from if_pos rfl]
          rw [sh_v p.toInt64, sh_v q.toInt64]
          exact ⟨rfl, rfl⟩
        · rw [if_neg e, if_neg e, show lkp (fun _ => 256 * x + z) (fun _ => p) 1 y = 0 from if_neg fun h => e h.symm, show lkp (fun _ => 256 * x + z) (fun _ => q) 1 y = 0 from if_neg fun h => e h.symm, Int64.mul_zero, Int64.add_zero, Int64.add_zero]
          exact ⟨rfl, rfl⟩
      · intro r M' hE
        have hE' := hE
        obtain ⟨_, _, _, ⟨_, rfl, _⟩ | ⟨_, rfl, _⟩⟩ := hE'
        all_goals (
          refine ⟨_, rfl, ?_⟩
          conv => whnf
          exact ⟨trivial, Or.inr ⟨h21, hE⟩⟩)
  refine am_run hZ 2 _ _ _ _ ?_
  conv => whnf
  refine ⟨fun _ => k62, fun c => ?_⟩
  have c : p = 0 := Decidable.byContradiction c
  refine am_run hZ 2 _ _ _ _ ?_
  conv => whnf
  exact ⟨fun _ => k62, fun c2 => absurd ⟨c, Decidable.byContradiction c2⟩ hpq⟩
end TR3
section TR4
variable {ac : Nat → ClassId} {lo : Nat} {ad as : Nat → Nat} {b L : Nat} {xs : Nat → Int32} {hp : mm_M → Nat → xm_H} {I J : mm_M → Prop}
theorem gdS_1 {k : Nat} {p q : Int32} (hp : smJ p.toInt64 = true) (hq : smJ q.toInt64 = true) (hpq : ¬ (p = 0 ∧ q = 0)) : gdS (oneT k p q) := fun i _ => by
  refine ⟨hp, hq, decide_eq_true fun z => hpq ?_⟩
  have k0 : ∀ v : Int32, v.toInt64 = 0 → v = 0 := fun v h => by
    have := Int32.toInt32_toInt64 v
    rw [h] at this
    exact this.symm
  exact ⟨k0 p z.1, k0 q z.2⟩
theorem pr_term (H : mm_L ac lo hp) (h1 : ∀ M, I M → smI M) (hJ : ∀ M N M', I M → csF M N → rsF N M' → smI M' → J M') (x z p q : Int32) : la_I ac lo ad as b L xs hp I J nm_X11_term nm_X12_term [.int x, .int z, .int p, .int q] := by
  refine am_la_I (us := [aI x, aI z, aI p, aI q]) H fun M hI => ?_
  by_cases hb : teB x z p q
  · refine am_wk (tex_0 (d := 998) hb) fun r M1 e => ⟨_, e.1, ?_⟩
    rw [e.2]
    exact am_wk (tem_0 (d := 998) hb) fun r M2 e => ⟨e.1, by rw [e.2]; exact hJ M M _ hI (csF_r M) rsF_th (smI_th (h1 M hI))⟩
  · have hs := h1 M hI
    obtain ⟨a, b, A, B, hr, c1, c2, r1, r2, o1, o2, hw, hz⟩ := hs
    unfold teB at hb
    obtain ⟨x', hx', rfl⟩ := b255 (s := x) (fun y => hb (Or.inl y)) (fun y => hb (Or.inr (Or.inl y)))
    obtain ⟨z', hz', rfl⟩ := b255 (s := z) (fun y => hb (Or.inr (Or.inr (Or.inl y)))) (fun y => hb (Or.inr (Or.inr (Or.inr (Or.inl y)))))
    have hp : smJ p.toInt64 = true := by
      cases y : smJ p.toInt64 with
      | true => rfl
      | false => exact absurd (Or.inr (Or.inr (Or.inr (Or.inr (Or.inl y))))) hb
    have hq : smJ q.toInt64 = true := by
      cases y : smJ q.toInt64 with
      | true => rfl
      | false => exact absurd (Or.inr (Or.inr (Or.inr (Or.inr (Or.inr y))))) hb
    refine am_wk (tex_1 (d := 994) (p := p) (q := q) hr c1 o1 hx' hz' hp hq) ?_
    rintro r M1 ⟨X, hX, f1, f2, f3, hE⟩
    have n1 := rsS_cs f1 r1
    have n2 := rsS_cs f1 r2
    have nw := wkM_cs f1 hw
    rcases hX with ⟨hpq, rfl⟩ | ⟨⟨rfl, rfl⟩, rfl⟩
    · have em : max A.2.1 (oneT (256 * x' + z') p q).2.1 = A.2.1 := Nat.max_eq_left (Nat.zero_le _)
      rw [em] at hE
      have fR : farR A (oneT (256 * x' + z') p q) ↔ 21 < A.2.1 := by
        unfold farR
        rw [em]
        show (0 < A.1 ∧ 21 < A.2.1 - A.2.1) ∨ (0 < 1 ∧ 21 < A.2.1 - 0) ↔ _
        omega
      rcases hE with ⟨k1, rfl, k3⟩ | ⟨k1, c, κ, k2, k3, k4, k5, k6⟩
      · have h21 : 21 < A.2.1 := by
          unfold farC at k1
          rw [em] at k1
          have k1 : (0 < A.1 ∧ 40 < A.2.1 - A.2.1) ∨ (0 < 1 ∧ 40 < A.2.1 - 0) := k1
          omega
        refine ⟨_, rfl, am_wk (tem_1 (d := 996) (c := 0) (κ := fun _ => 0) n1 (okS_or o1) nw hx' hz' hp hq hpq (fun y => absurd h21 y)) ?_⟩
        rintro r M2 (⟨_, rfl, rfl⟩ | ⟨y, _⟩)
        · exact ⟨rfl, hJ M M1 _ hI f1 rsF_th (sm_mk hr f2 hz k3 (f3 B c2) rsF_th (rsS_th n1) (rsS_th n2) o1 o2 (wkM_th nw))⟩
        · exact absurd h21 y
      · have okx : 21 < A.2.1 → okN (suP A.2.1 1 A (oneT (256 * x' + z') p q)) (suQ A.2.1 1 A (oneT (256 * x' + z') p q)) A.2.1 c κ = false := fun h21 => by
          have := far_k (sg := 1) (z := 1) (c := c) (κ := κ) (Or.inl ⟨rfl, rfl⟩) (okS_or o1) (orS_1 (k := 256 * x' + z') (p := p) (q := q) (by omega)) (okS_gd o1) (gdS_1 hp hq hpq) o1.2.2.2.2.2 (Or.inl rfl) (fR.mpr h21) k1 (by rw [em]; exact k2)
          rw [em] at this
          exact this
        rcases k6 with ⟨y1, rfl, y3⟩ | ⟨y1, rfl, y3⟩
        · have h21 : ¬ 21 < A.2.1 := fun h => by
            rw [okx h] at y1
            exact absurd y1 (by decide)
          refine ⟨_, rfl, am_wk (tem_1 (d := 996) (c := c) (κ := κ) n1 (okS_or o1) nw hx' hz' hp hq hpq (fun _ => k2)) ?_⟩
          rintro r M2 (⟨y, _⟩ | ⟨_, e1, e2, e3, ⟨w1, rfl, w3⟩ | ⟨w1, _⟩⟩)
          · exact absurd y h21
          · refine ⟨rfl, hJ M M1 _ hI f1 (rsF_t rsF_th e1) (sm_mk hr f2 hz y3 (f3 B c2) (rsF_t rsF_th e1) w3 (e3 B (rsS_th n2)) (okS_new (enX_u k2 y1) y1) o2 e2)⟩
          · rw [y1] at w1
            exact absurd w1 (by decide)
        · refine ⟨_, rfl, am_wk (tem_1 (d := 996) (c := c) (κ := κ) n1 (okS_or o1) nw hx' hz' hp hq hpq (fun _ => k2)) ?_⟩
          rintro r M2 (⟨_, rfl, rfl⟩ | ⟨_, e1, e2, e3, ⟨w1, _⟩ | ⟨w1, rfl, w3⟩⟩)
          · exact ⟨rfl, hJ M M1 _ hI f1 rsF_th (sm_mk hr f2 hz y3 (f3 B c2) rsF_th (rsS_th n1) (rsS_th n2) o1 o2 (wkM_th nw))⟩
          · rw [y1] at w1
            exact absurd w1 (by decide)
          · exact ⟨rfl, hJ M M1 _ hI f1 (rsF_t rsF_th e1) (sm_mk hr f2 hz y3 (f3 B c2) (rsF_t rsF_th e1) (w3 A (rsS_th n1)) (e3 B (rsS_th n2)) o1 o2 e2)⟩
    · have em : max A.2.1 noT.2.1 = A.2.1 := Nat.max_eq_left (Nat.zero_le _)
      rw [em] at hE
      rcases hE with ⟨k1, _⟩ | ⟨k1, c, κ, k2, k3, k4, k5, k6⟩
      · unfold farC at k1
        rw [em] at k1
        have k1 : (0 < A.1 ∧ 40 < A.2.1 - A.2.1) ∨ (0 < 0 ∧ 40 < A.2.1 - 0) := k1
        omega
      · obtain ⟨s1, s2⟩ := self_k (X := noT) (sg := 1) o1 rfl k2
        rcases k6 with ⟨y1, rfl, y3⟩ | ⟨y1, _⟩
        · have ec : c = A.1 := s2.1
          refine ⟨_, rfl, am_wk (tem_2 (d := 998) n1 hx' hz') ?_⟩
          rintro r M2 ⟨rfl, rfl⟩
          rw [ec]
          exact ⟨rfl, hJ M M1 _ hI f1 rsF_th (sm_mk hr f2 hz (csS_same s2 y3) (f3 B c2) rsF_th (rsS_th n1) (rsS_th n2) o1 o2 (wkM_th nw))⟩
        · rw [s1] at y1
          exact absurd y1 (by decide)
end TR4
