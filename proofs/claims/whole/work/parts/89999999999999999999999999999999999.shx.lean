/-! SHORTEST: spreadFrom whole -/
def spW4 (M N : mm_M) : Prop := (∀ k, k ≠ 57 → k ≠ 63 → N.1 k = M.1 k) ∧ (∀ k, k ≠ 64 → N.2 k = M.2 k) ∧ ∀ y, y ≠ 9 → N.1 57 y = M.1 57 y
theorem spW4_r (M : mm_M) : spW4 M M := ⟨fun _ _ _ => rfl, fun _ _ => rfl, fun _ _ => rfl⟩
theorem spW4_t {M N K : mm_M} (h : spW4 M N) (g : spW4 N K) : spW4 M K := ⟨fun k a b => (g.1 k a b).trans (h.1 k a b), fun k a => (g.2.1 k a).trans (h.2.1 k a), fun y a => (g.2.2 y a).trans (h.2.2 y a)⟩
theorem spW4_d {M N : mm_M} {R : Nat} {v : Int32} (h : sdF R v M N) : spW4 M N := ⟨fun k _ b => h.1 k b, fun k a => h.2.2.1 k a, fun y _ => by rw [h.1 57 (by decide)]⟩
/-- all keys at distance D and of a rank below R, or of rank R by the first steps, have spread -/
def dnD (N : mm_M) (D R I : Nat) : Prop := ∀ k i, symK k → dlS stZ k4e k D → i < 5 → (rkK k < R ∨ (rkK k = R ∧ i < I)) → dOf N (szP (bkG i) k) ≠ 0
section SHX
variable {d : Nat} {M : mm_M} {D : Nat}
set_option maxRecDepth 100000 in
theorem sf_i {P : am_Q} {X : am_X} {R : Nat} {f : Nat → Bool} {u : K4} (hX : am_K (d + 4) false nm_X2_spreadFrom P X) (hD : D < 14) (hR : R < 720) (hu : symK u) (hru : rkK u = R) (hf : ∀ s, s < 16 → (f s = true ↔ ∃ k, symK k ∧ rkK k = R ∧ sgN k = s ∧ dlS stZ k4e k D)) (hne : ∃ s, s < 16 ∧ f s = true) (hK : ∀ N, spW4 M N → stpd N → tbD N D → dnD N D (R + 1) 0 → ∀ l4, X 59 [some (aR 57), some (aI (nI D)), some (aI (nI R)), some (aI (nI (stA f 16))), l4] [] N) : ∀ (m i : Nat) (N : mm_M), i + m = 5 → spW4 M N → stpd N → tbD N D → dnD N D R i → X 19 [some (aR 57), some (aI (nI D)), some (aI (nI R)), some (aI (nI (stA f 16))), some (aI (nI i))] [] N := by
  have n0 : stA f 16 ≠ 0 := fun z => by
    obtain ⟨s, hs, e⟩ := hne
    rw [stA_0 f z hs] at e
    exact absurd e (by decide)
  have nl := stA_l f 16
  intro m
  induction m with
  | zero =>
    intro i N hi hF hS hT hd
    obtain rfl : i = 5 := by omega
    refine am_run hX 3 _ _ _ _ ?_
    conv => whnf
    refine ⟨fun _ => ?_, fun z => absurd (by decide) z⟩
    exact hK N hF hS hT (fun k j a b c e => hd k j a b c (by omega)) _
  | succ m ih =>
    intro i N hi hF hS hT hd
    have i5 : i < 5 := by omega
    obtain ⟨b1, b2, b3⟩ := bkG_t i i5
    refine am_run hX 3 _ _ _ _ ?_
    conv => whnf
    refine ⟨fun z => absurd z (nI_ge (a := i) (b := 5) i5 (by decide)), fun _ => ?_⟩
    refine am_run hX 2 _ _ _ _ ?_
    conv => whnf
    refine ⟨fun z => absurd z (nI_ne0 (by omega) (by omega)), fun _ => ?_⟩
    -- the key of this rank
    obtain ⟨s, hs, fs⟩ := hne
    obtain ⟨k0, k1, k2, k3, k5⟩ := (hf s hs).mp fs
    have h0 : nb (N.2 64 R) s ≠ 0 := by
      have := hT.2 k0 D k1 (Nat.le_refl _) k5
      unfold dOf at this
      rw [k2, k3] at this
      omega
    obtain ⟨k', _, c1, c2, _, c4, _⟩ := hT.1 R s hR hs h0
    have eu : un4 k' = un4 u := ru_i c1 hu (c2.trans hru.symm)
    rw [eu] at c4
    have hus := sym_un hu
    refine am_run hX 10 _ _ _ _ ?_
    conv => whnf
    refine ⟨vp_in_nI hR (by decide), ?_⟩
    conv => whnf
    refine ⟨vp_in_nI (by show i < 5; omega) (by decide), ?_⟩
    conv => whnf
    rw [nI_clamp (n := R) (by omega), nI_clamp (n := i) (by omega), c4]
    dsimp only
    rw [b3]
    refine am_c1 (ct_stF (d := d + 3) b2 hus.1 hS) ?_
    rw [b1]
    refine am_run hX 5 _ _ _ _ ?_
    conv => whnf
    rw [nI_1]
    have hq : symK (szP (bkG i) (un4 u)) := sym_P (bkG_19 i i5) hus
    refine am_cq (ct_spT (d := d) (M := N) (E := D + 1) (f := f) hq (by omega)) fun r1 N1 hq1 => ?_
    obtain ⟨rfl, f1, n1⟩ := hq1
    refine ⟨none, rfl, ?_⟩
    obtain ⟨t1, t2, t3⟩ := tbD_s hT i5 hu hru hf ⟨s, hs, fs⟩ f1 n1
    refine am_run hX 2 _ _ _ _ ?_
    conv => whnf
    rw [nI_1]
    refine ih (i + 1) N1 (by omega) (spW4_t hF (spW4_d f1)) (fun j hj => by rw [f1.1 62 (by decide)]; exact hS j hj) t1 (fun k j a b c e => ?_)
    by_cases q : rkK k = R ∧ j = i
    · obtain ⟨q1, q2⟩ := q
      subst q2
      exact t3 k a q1 b
    · have h1 := hd k j a b c (by omega)
      rw [t2 _ (sym_P (bkG_19 j c) a) h1]
      exact h1
set_option maxRecDepth 100000 in
theorem sf_r {P : am_Q} {X : am_X} (hX : am_K (d + 4) false nm_X2_spreadFrom P X) (hD : D < 14) (hP : ∀ N, spW4 M N → stpd N → tbD N (D + 1) → N.1 57 9 = nI (D + 1) → P (.inl none) N) : ∀ (m R : Nat) (N : mm_M) (l3 l4 : Option am_V), R + m = 720 → spW4 M N → stpd N → tbD N D → dnD N D R 0 → X 2 [some (aR 57), some (aI (nI D)), some (aI (nI R)), l3, l4] [] N := by
  intro m
  induction m with
  | zero =>
    intro R N l3 l4 hR hF hS hT hd
    obtain rfl : R = 720 := by omega
    refine am_run hX 3 _ _ _ _ ?_
    conv => whnf
    refine ⟨fun _ => ?_, fun z => absurd (by decide) z⟩
    refine am_run hX 6 _ _ _ _ ?_
    conv => whnf
    rw [nI_1]
    generalize hN : mm_i N 57 _ = N1
    have f0 : ∀ j, j ≠ 57 → N1.1 j = N.1 j := fun j hj => by rw [← hN, mm_ne _ _ _ _ hj]
    have f1 : ∀ y, y ≠ 9 → N1.1 57 y = N.1 57 y := fun y hy => by rw [← hN, mm_i1, up_ne hy]
    have f2 : N1.2 = N.2 := by rw [← hN]; rfl
    refine ⟨trivial, hP N1 (spW4_t hF ⟨fun k a _ => f0 k a, fun k _ => by rw [f2], f1⟩) (fun j hj => by rw [f0 62 (by decide)]; exact hS j hj) ?_ (by rw [← hN, mm_i1]; exact up_at)⟩
    have ed : ∀ k, dOf N1 k = dOf N k := fun k => by unfold dOf; rw [f2]
    refine ⟨fun r s hr hs h0 => ?_, fun k x hk hx hdl => ?_⟩
    · rw [f2] at h0 ⊢
      obtain ⟨k, x, a1, a2, a3, a4, a5, a6⟩ := hT.1 r s hr hs h0
      exact ⟨k, x, a1, a2, a3, by rw [f0 63 (by decide)]; exact a4, by omega, a6⟩
    · rw [ed]
      by_cases c : x ≤ D
      · exact hT.2 k x hk c hdl
      · obtain rfl : x = D + 1 := by omega
        obtain ⟨i, hi, h2⟩ := dl_f hdl
        have h3 := hd (stZ i k) i (sym_P (szS_19 i hi) hk) h2 hi (Or.inl (rkK_l (sym_P (szS_19 i hi) hk)))
        rw [(bk_st hi hk.1).2] at h3
        obtain ⟨y, _, y2, y3⟩ := tb_k hT hk h3
        rw [dl_u hdl y2]
        exact y3
  | succ m ih =>
    intro R N l3 l4 hR hF hS hT hd
    have R7 : R < 720 := by omega
    refine am_run hX 3 _ _ _ _ ?_
    conv => whnf
    refine ⟨fun z => absurd z (nI_ge (a := R) (b := 720) R7 (by decide)), fun _ => ?_⟩
    refine am_run hX 4 _ _ _ _ ?_
    conv => whnf
    refine am_c1 (ct_sA (d := d + 3) R7 (by omega)) ?_
    refine am_run hX 3 _ _ _ _ ?_
    conv => whnf
    generalize hfe : (fun s => nb (N.2 64 R) s == D + 1) = f
    have hf : ∀ s, s < 16 → (f s = true ↔ ∃ k, symK k ∧ rkK k = R ∧ sgN k = s ∧ dlS stZ k4e k D) := by
      intro s hs
      have e : f s = (nb (N.2 64 R) s == D + 1) := by rw [← hfe]
      rw [e, beq_iff_eq]
      refine ⟨fun h => ?_, fun h => ?_⟩
      · obtain ⟨k, x, a1, a2, a3, _, _, a6, a7⟩ := hT.1 R s R7 hs (by omega)
        have : x = D := by omega
        subst this
        exact ⟨k, a1, a2, a3, a6⟩
      · obtain ⟨k, a1, a2, a3, a4⟩ := h
        have := hT.2 k D a1 (Nat.le_refl _) a4
        unfold dOf at this
        rw [a2, a3] at this
        exact this
    have next : ∀ N', spW4 M N' → stpd N' → tbD N' D → dnD N' D (R + 1) 0 → ∀ l4', X 59 [some (aR 57), some (aI (nI D)), some (aI (nI R)), some (aI (nI (stA f 16))), l4'] [] N' := by
      intro N' a b c e l4'
      refine am_run hX 2 _ _ _ _ ?_
      conv => whnf
      rw [nI_1]
      exact ih (R + 1) N' _ _ (by omega) a b c e
    by_cases c : ∃ s, s < 16 ∧ f s = true
    · obtain ⟨s, hs, fs⟩ := c
      obtain ⟨u, u1, u2, _⟩ := (hf s hs).mp fs
      exact sf_i (d := d) (M := M) hX hD R7 u1 u2 hf ⟨s, hs, fs⟩ next 5 0 N (by omega) hF hS hT hd
    · have n0 : stA f 16 = 0 := by
        have := stA_e f (s := 0) 16 (fun j _ hj => by
          cases e : f j with
          | false => rfl
          | true => exact absurd ⟨j, by omega, e⟩ c)
        rw [Nat.zero_add] at this
        exact this
      refine am_run hX 3 _ _ _ _ ?_
      conv => whnf
      refine ⟨fun z => absurd z (by decide), fun _ => ?_⟩
      refine am_run hX 2 _ _ _ _ ?_
      conv => whnf
      refine ⟨fun _ => ?_, fun z => absurd (by rw [n0]; rfl) z⟩
      refine next N hF hS hT (fun k i a b e w => ?_) _
      rcases w with w | w
      · by_cases q : rkK k = R
        · exact absurd ⟨sgN k, sgN_l a.1, (hf _ (sgN_l a.1)).mpr ⟨k, a, q, rfl, b⟩⟩ c
        · exact hd k i a b e (Or.inl (by omega))
      · exact absurd w.2 (Nat.not_lt_zero _)
set_option maxRecDepth 100000 in
theorem ct_spF (hD : D < 14) (hS : stpd M) (hT : tbD M D) : am_M (d + 5) false nm_X2_spreadFrom [aR 57, aI (nI D)] M (fun r N => r = .inl none ∧ spW4 M N ∧ stpd N ∧ tbD N (D + 1) ∧ N.1 57 9 = nI (D + 1)) := by
  refine ⟨rfl, rfl, rfl, fun X hX => am_run hX 2 _ _ _ _ ?_⟩
  conv => whnf
  exact sf_r (d := d) (M := M) hX hD (fun N a b c e => ⟨rfl, a, b, c, e⟩) 720 0 M _ _ (by omega) (spW4_r M) hS hT (fun k i _ _ _ w => by omega)
end SHX
