/-! ROUTE: the class's mapChip -/
def mcF (M N : mm_M) : Prop := (∀ k, k ≠ 74 → k ≠ 76 → N.1 k = M.1 k) ∧ ∀ k, k ≠ 75 → N.2 k = M.2 k
theorem mcF_r (M : mm_M) : mcF M M := ⟨fun _ _ _ => rfl, fun _ _ => rfl⟩
theorem mcF_t {M N K : mm_M} (h : mcF M N) (g : mcF N K) : mcF M K := ⟨fun k a b => (g.1 k a b).trans (h.1 k a b), fun k a => (g.2 k a).trans (h.2 k a)⟩
theorem mcF_w {M N : mm_M} (h : mcF M N) : rwyF M N := ⟨fun k _ b c => h.1 k b c, fun k a _ => h.2 k a⟩
section RTM
variable {d : Nat} {M : mm_M} {W : Nat} {Lk : Nat → Nat → Bool}
set_option maxRecDepth 100000 in
theorem mc_a {P : am_Q} {X : am_X} (hX : am_K d false nm_X7_mapChip P X) (hW : W ≤ 6) (hK : X 22 [some (aR 70), some (aI (nI W)), some (aI (nI (cnW W))), some (aI (nI W)), none] [] M) : ∀ (m i : Nat), i + m = W → X 4 [some (aR 70), some (aI (nI W)), some (aI (nI (cnW i))), some (aI (nI i)), none] [] M := by
  intro m
  induction m with
  | zero =>
    intro i hi
    obtain rfl : i = W := by omega
    refine am_run hX 3 _ _ _ _ ?_
    conv => whnf
    exact ⟨fun _ => hK, fun z => absurd (nI_le (Nat.le_refl _) (by omega)) z⟩
  | succ m ih =>
    intro i hi
    refine am_run hX 3 _ _ _ _ ?_
    conv => whnf
    refine ⟨fun z => absurd z (nI_ge (by omega) (by omega)), fun _ => ?_⟩
    refine am_run hX 8 _ _ _ _ ?_
    conv => whnf
    rw [show (6 : Int32) - nI i = nI (6 - i) from by rw [show (6 : Int32) = nI 6 from rfl, nI_sub (by omega)], nI_mul, nI_1]
    exact ih (i + 1) (by omega)
set_option maxRecDepth 100000 in
theorem mc_b {P : am_Q} {X : am_X} (hX : am_K (d + 3) false nm_X7_mapChip P X) (hW : W ≤ 6) (hK : ∀ N, mcF M N → arM N W (cnW W) → (∀ r, r < cnW W → N.1 76 r = nI 0) → X 54 [some (aR 70), some (aI (nI W)), some (aI (nI (cnW W))), some (aI (nI (cnW W))), none] [] N) : ∀ (m i : Nat) (N : mm_M), i + m = cnW W → mcF M N → arM N W i → (∀ r, r < i → N.1 76 r = nI 0) → X 24 [some (aR 70), some (aI (nI W)), some (aI (nI (cnW W))), some (aI (nI i)), none] [] N := by
  have c7 := (cnW_7 W (by omega)).1
  intro m
  induction m with
  | zero =>
    intro i N hi hF hA h0
    obtain rfl : i = cnW W := by omega
    refine am_run hX 3 _ _ _ _ ?_
    conv => whnf
    exact ⟨fun _ => hK N hF hA h0, fun z => absurd (nI_le (Nat.le_refl _) (by omega)) z⟩
  | succ m ih =>
    intro i N hi hF hA h0
    have ir : i < cnW W := by omega
    refine am_run hX 3 _ _ _ _ ?_
    conv => whnf
    refine ⟨fun z => absurd z (nI_ge (by omega) (by omega)), fun _ => ?_⟩
    refine am_run hX 7 _ _ _ _ ?_
    conv => whnf
    refine am_c1 (ct_plsO (d := d) hW ir) ?_
    refine am_run hX 1 _ _ _ _ ?_
    conv => whnf
    refine ⟨vp_in_nI (by show i < 720; omega) (by decide), ?_⟩
    rw [nI_clamp (n := i) (by omega)]
    generalize hN1 : mm_i N 74 _ = N1
    refine am_run hX 7 _ _ _ _ ?_
    conv => whnf
    refine ⟨vp_in_nI (by show i < 720; omega) (by decide), ?_⟩
    rw [nI_clamp (n := i) (by omega)]
    generalize hN2 : mm_i N1 76 _ = N2
    have a1 : ∀ k, k ≠ 74 → k ≠ 76 → N2.1 k = N.1 k := fun k a b => by rw [← hN2, mm_ne _ _ _ _ b, ← hN1, mm_ne _ _ _ _ a]
    have a4 : N2.1 74 = upd (N.1 74) i (nI (pk8 (unP W i))) := by rw [← hN2, mm_ne _ _ _ _ (by decide), ← hN1, mm_i1]
    have a6 : N2.1 76 = upd (N.1 76) i 0 := by rw [← hN2, mm_i1, ← hN1, mm_ne _ _ _ _ (by decide)]
    conv => whnf
    rw [nI_1]
    refine ih (i + 1) N2 (by omega) (mcF_t hF ⟨a1, fun k _ => by rw [← hN2, ← hN1]; rfl⟩) (fun r hr => ?_) (fun r hr => ?_)
    · rw [a4]
      by_cases c : r = i
      · rw [c]
        exact up_at
      · rw [up_ne c]
        exact hA r (by omega)
    · rw [a6]
      by_cases c : r = i
      · rw [c]
        exact up_at
      · rw [up_ne c]
        exact h0 r (by omega)
def nbP (N : mm_M) (W : Nat) (Lk : Nat → Nat → Bool) (r w : Nat) : Prop := ∀ r' w', (r' < r ∧ w' < 3 ∨ r' = r ∧ w' < w) → N.2 75 (3 * r' + w') = nJ (pkN (fun i => nbR W Lk r' (5 * w' + i)) 5)
set_option maxRecDepth 100000 in
theorem mc_w {P : am_Q} {X : am_X} {r : Nat} (hX : am_K (d + 3) false nm_X7_mapChip P X) (hW : W ≤ 6) (hr : r < cnW W) (hL : lnK M Lk) (hK : ∀ N v4, mcF M N → (∀ k, N.1 k = M.1 k) → nbP N W Lk (r + 1) 0 → X 97 [some (aR 70), some (aI (nI W)), some (aI (nI (cnW W))), some (aI (nI r)), v4] [] N) (hA : arM M W (cnW W)) : ∀ (m w : Nat) (N : mm_M), w + m = 3 → mcF M N → (∀ k, N.1 k = M.1 k) → nbP N W Lk r w → X 64 [some (aR 70), some (aI (nI W)), some (aI (nI (cnW W))), some (aI (nI r)), some (aI (nI w))] [] N := by
  have c7 := (cnW_7 W (by omega)).1
  intro m
  induction m with
  | zero =>
    intro w N hw hF hE hN
    obtain rfl : w = 3 := by omega
    refine am_run hX 3 _ _ _ _ ?_
    conv => whnf
    exact ⟨fun _ => hK N _ hF hE (fun r' w' h => hN r' w' (by omega)), fun z => absurd (by decide) z⟩
  | succ m ih =>
    intro w N hw hF hE hN
    have w3 : w < 3 := by omega
    have hL' : lnK N Lk := by unfold lnK at hL ⊢; rw [hE 70]; exact hL
    refine am_run hX 3 _ _ _ _ ?_
    conv => whnf
    refine ⟨fun z => absurd z (nI_ge (a := w) (b := 3) w3 (by decide)), fun _ => ?_⟩
    refine am_run hX 14 _ _ _ _ ?_
    conv => whnf
    rw [show (5 : Int32) * nI w = nI (5 * w) from by rw [show (5 : Int32) = nI 5 from rfl, nI_mul], show (3 : Int32) * nI r + nI w = nI (3 * r + w) from by rw [show (3 : Int32) = nI 3 from rfl, nI_mul, nI_add]]
    refine am_c1 (ct_pkN (d := d) hW hr w3 hL' (by rw [hE 74]; exact hA r hr)) ?_
    refine am_run hX 3 _ _ _ _ ?_
    conv => whnf
    refine ⟨vp_in_nI (by show _ < 2160; omega) (by decide), ?_⟩
    rw [nI_clamp (n := 3 * r + w) (by omega)]
    generalize hN1 : mm_l N 75 _ = N1
    conv => whnf
    rw [nI_1]
    refine ih (w + 1) N1 (by omega) (mcF_t hF ⟨fun k _ _ => by rw [← hN1]; rfl, fun k hk => by rw [← hN1, mm_lne _ _ _ _ hk]⟩) (fun k => by rw [← hN1]; exact hE k) (fun r' w' h => ?_)
    rw [← hN1, mm_l2]
    by_cases c : r' = r ∧ w' = w
    · rw [c.1, c.2, upl_at, nbS_e]
    · rw [upl_ne (by omega)]
      exact hN r' w' (by omega)
set_option maxRecDepth 100000 in
theorem mc_c {P : am_Q} {X : am_X} (hX : am_K (d + 3) false nm_X7_mapChip P X) (hW : W ≤ 6) (hL : lnK M Lk) (hA : arM M W (cnW W)) (hP : ∀ N, mcF M N → (∀ k, N.1 k = M.1 k) → nbM N W Lk (cnW W) → P (.inl (some (aI (nI (cnW W))))) N) : ∀ (m r : Nat) (N : mm_M) (v4 : Option am_V), r + m = cnW W → mcF M N → (∀ k, N.1 k = M.1 k) → nbP N W Lk r 0 → X 56 [some (aR 70), some (aI (nI W)), some (aI (nI (cnW W))), some (aI (nI r)), v4] [] N := by
  have c7 := (cnW_7 W (by omega)).1
  intro m
  induction m with
  | zero =>
    intro r N v4 hr hF hE hN
    obtain rfl : r = cnW W := by omega
    refine am_run hX 3 _ _ _ _ ?_
    conv => whnf
    refine ⟨fun _ => ?_, fun z => absurd (nI_le (Nat.le_refl _) (by omega)) z⟩
    refine am_run hX 2 _ _ _ _ ?_
    conv => whnf
    exact ⟨trivial, hP N hF hE (fun r w a b => hN r w (Or.inl ⟨a, b⟩))⟩
  | succ m ih =>
    intro r N v4 hr hF hE hN
    have rr : r < cnW W := by omega
    refine am_run hX 3 _ _ _ _ ?_
    conv => whnf
    refine ⟨fun z => absurd z (nI_ge (by omega) (by omega)), fun _ => ?_⟩
    refine am_run hX 2 _ _ _ _ ?_
    conv => whnf
    refine mc_w (d := d) (M := M) hX hW rr hL (fun N1 v4' f1 e1 n1 => ?_) hA 3 0 N (by omega) hF hE hN
    refine am_run hX 2 _ _ _ _ ?_
    conv => whnf
    rw [nI_1]
    exact ih (r + 1) N1 _ (by omega) f1 e1 n1
set_option maxRecDepth 100000 in
theorem ct_mapC (hW : W ≤ 6) (hL : lnK M Lk) : am_M (d + 4) false nm_X7_mapChip [aR 70, aI (nI W)] M (fun r N => r = .inl (some (aI (nI (cnW W)))) ∧ mcF M N ∧ arM N W (cnW W) ∧ nbM N W Lk (cnW W) ∧ ∀ r, r < cnW W → N.1 76 r = nI 0) := by
  refine ⟨rfl, rfl, rfl, fun X hX => am_run hX 4 _ _ _ _ ?_⟩
  conv => whnf
  refine mc_a (M := M) hX hW ?_ W 0 (by omega)
  refine am_run hX 2 _ _ _ _ ?_
  conv => whnf
  refine mc_b (d := d) (M := M) hX hW (fun N f a z => ?_) (cnW W) 0 M (by omega) (mcF_r M) (fun r hr => absurd hr (Nat.not_lt_zero _)) (fun r hr => absurd hr (Nat.not_lt_zero _))
  have hL' : lnK N Lk := by unfold lnK at hL ⊢; rw [f.1 70 (by decide) (by decide)]; exact hL
  refine am_run hX 2 _ _ _ _ ?_
  conv => whnf
  refine mc_c (d := d) (M := N) hX hW hL' a (fun N1 f1 e1 n1 => ⟨rfl, mcF_t f f1, fun r hr => by rw [e1]; exact a r hr, n1, fun r hr => by rw [e1]; exact z r hr⟩) (cnW W) 0 N none (by omega) (mcF_r N) (fun _ => rfl) (fun r' w' h => by omega)
end RTM
