/-! SHORTEST: the class turns its four PAULIS -/
def dcR (r : Nat) : RW := (r % 4, r / 4 % 4, r / 16)
def fr4 (N : mm_M) (k : K4) : Prop := N.1 58 3 = nI 4 ∧ ∀ i, i < 4 → r4f N i (dcR (rwK k i))
def f4F (M N : mm_M) : Prop := (∀ k, (k < 58 ∨ 61 < k) → N.1 k = M.1 k) ∧ N.2 = M.2
theorem f4F_r (M : mm_M) : f4F M M := ⟨fun _ _ => rfl, rfl⟩
theorem f4F_t {M N K : mm_M} (h : f4F M N) (g : f4F N K) : f4F M K := ⟨fun k a => (g.1 k a).trans (h.1 k a), g.2.trans h.2⟩
theorem dcR_o {r : Nat} (h : r < 32) : rw_ok (dcR r) := ⟨by show r % 4 < _; omega, by show r / 4 % 4 < _; omega, by show r / 16 < 2; omega⟩
theorem lq_0 : ∀ k, k < 5 → ∀ a, a < 2 → ∀ r, r < 32 → sg k a (dcR r) = dcR (szR (2 * k + a) r) := by decide +kernel
theorem lq_6 : ∀ a, a < 2 → ∀ r, r < 32 → nX a (nS a (dcR r)) = dcR (szR (10 + a) r) := by decide +kernel
theorem lq_8 : ∀ a, a < 2 → ∀ r, r < 32 → cpl 7 (1 - a) a (dcR r) = dcR (szR 12 r) := by decide +kernel
theorem lq_c0 : ∀ a, a < 2 → ∀ r, r < 32 → cpl 5 (1 - a) a (dcR r) = dcR (szR (13 + a) r) := by decide +kernel
theorem lq_c1 : ∀ a, a < 2 → ∀ r, r < 32 → nS a (nH a (nC a (1 - a) (nH a (nX a (nS a (dcR r)))))) = dcR (szR (15 + a) r) := by decide +kernel
theorem lq_c2 : ∀ a, a < 2 → ∀ r, r < 32 → cpl 6 (1 - a) a (dcR r) = dcR (szR (17 + a) r) := by decide +kernel
theorem w4_o {N : mm_M} {i j : Nat} {y z : RW} (h : r4f N j z) (e : j ≠ i) : r4f (w4f N i y) j z := by
  obtain ⟨a, b, c⟩ := h
  unfold w4f
  refine ⟨?_, ?_, ?_⟩
  · rw [mm_ne _ _ _ _ (by decide), mm_ne _ _ _ _ (by decide), mm_i1, up_ne e]
    exact a
  · rw [mm_ne _ _ _ _ (by decide), mm_i1, up_ne e]
    exact b
  · rw [mm_i1, up_ne e]
    exact c
theorem w4_fF (N : mm_M) (i : Nat) (y : RW) : f4F N (w4f N i y) := ⟨fun k a => by
  unfold w4f
  rw [mm_ne _ _ _ _ (by omega), mm_ne _ _ _ _ (by omega), mm_ne _ _ _ _ (by omega)], rfl⟩
theorem w4_58 (N : mm_M) (i : Nat) (y : RW) : (w4f N i y).1 58 = N.1 58 := by
  unfold w4f
  rw [mm_ne _ _ _ _ (by decide), mm_ne _ _ _ _ (by decide), mm_ne _ _ _ _ (by decide)]
section SHQ
variable {d : Nat} {M : mm_M} {k : K4} {g : Nat}
set_option maxRecDepth 100000 in
theorem t4_l {P : am_Q} {X : am_X} {kk aa bb : Int32} {G : RW → RW} (hX : am_K d false nm_X8_turnBy P X) (hk : k4 k) (hB : ∀ i, i < 4 → ∀ (N : mm_M) (y : RW), r4f N i y → rw_ok y → X 252 [some (aR 58), some (aI kk), some (aI aa), some (aI bb), some (aI (nI i))] [] (w4f N i (G y)) → X 17 [some (aR 58), some (aI kk), some (aI aa), some (aI bb), some (aI (nI i))] [] N) (hG : ∀ r, r < 32 → G (dcR r) = dcR (szR g r)) (hP : ∀ N, f4F M N → fr4 N (szP g k) → P (.inl none) N) : ∀ (m i : Nat) (N : mm_M), i + m = 4 → f4F M N → N.1 58 3 = nI 4 → (∀ j, j < i → r4f N j (dcR (szR g (rwK k j)))) → (∀ j, i ≤ j → j < 4 → r4f N j (dcR (rwK k j))) → X 8 [some (aR 58), some (aI kk), some (aI aa), some (aI bb), some (aI (nI i))] [] N := by
  intro m
  induction m with
  | zero =>
    intro i N hi hF h3 h1 h2
    obtain rfl : i = 4 := by omega
    refine am_run hX 4 _ _ _ _ ?_
    conv => whnf
    rw [h3]
    refine ⟨fun _ => ?_, fun z => absurd (by decide) z⟩
    refine am_run hX 1 _ _ _ _ ?_
    conv => whnf
    exact ⟨trivial, hP N hF ⟨h3, fun j hj => by rw [rwK_P g k hj]; exact h1 j hj⟩⟩
  | succ m ih =>
    intro i N hi hF h3 h1 h2
    have i4 : i < 4 := by omega
    have hr := rwK_l hk i
    refine am_run hX 4 _ _ _ _ ?_
    conv => whnf
    rw [h3]
    refine ⟨fun z => absurd z (nI_ge (a := i) (b := 4) i4 (by decide)), fun _ => ?_⟩
    refine hB i i4 N (dcR (rwK k i)) (h2 i (Nat.le_refl _) i4) (dcR_o hr) ?_
    rw [hG _ hr]
    refine am_run hX 2 _ _ _ _ ?_
    conv => whnf
    rw [nI_1]
    refine ih (i + 1) _ (by omega) (f4F_t hF (w4_fF _ _ _)) (by rw [w4_58]; exact h3) (fun j hj => ?_) (fun j a b => ?_)
    · by_cases e : j = i
      · subst e
        exact r4_w
      · exact w4_o (h1 j (by omega)) e
    · exact w4_o (h2 j (by omega) b) (by omega)
set_option maxRecDepth 100000 in
theorem t4_b {P : am_Q} {X : am_X} {kk aa bb : Int32} {G : RW → RW} (hX : am_K d false nm_X8_turnBy P X) (hk : k4 k) (h4 : fr4 M k) (hB : ∀ i, i < 4 → ∀ (N : mm_M) (y : RW), r4f N i y → rw_ok y → X 252 [some (aR 58), some (aI kk), some (aI aa), some (aI bb), some (aI (nI i))] [] (w4f N i (G y)) → X 17 [some (aR 58), some (aI kk), some (aI aa), some (aI bb), some (aI (nI i))] [] N) (hG : ∀ r, r < 32 → G (dcR r) = dcR (szR g r)) (hP : ∀ N, f4F M N → fr4 N (szP g k) → P (.inl none) N) : X 0 [some (aR 58), some (aI kk), some (aI aa), some (aI bb), none] [] M := by
  refine am_run hX 5 _ _ _ _ ?_
  conv => whnf
  refine ⟨⟨rfl, rfl⟩, ?_⟩
  generalize hN : mm_i M 58 _ = N
  have f0 : ∀ j, j ≠ 58 → N.1 j = M.1 j := fun j hj => by rw [← hN, mm_ne _ _ _ _ hj]
  have f3 : N.1 58 3 = nI 4 := by rw [← hN, mm_i1, up_ne (by decide)]; exact h4.1
  conv => whnf
  refine t4_l (M := M) hX hk hB hG hP 4 0 N (by omega) ⟨fun j hj => f0 j (by omega), by rw [← hN]; rfl⟩ f3 (fun j hj => absurd hj (Nat.not_lt_zero _)) (fun j _ hj => ?_)
  obtain ⟨a, b, c⟩ := h4.2 j hj
  exact ⟨by rw [f0 59 (by decide)]; exact a, by rw [f0 60 (by decide)]; exact b, by rw [f0 61 (by decide)]; exact c⟩
set_option maxRecDepth 100000 in
theorem ct_t40 {x a b : Nat} (hx : x ≤ 4 ∨ x = 6 ∨ x = 8) (ha : a < 2) (hb : x = 8 → b = 1 - a) (hk : k4 k) (h4 : fr4 M k) : am_M (d + 3) false nm_X8_turnBy [aR 58, aI (nI x), aI (nI a), aI (nI b)] M (fun r N => r = .inl none ∧ f4F M N ∧ fr4 N (szP (if x = 8 then 12 else if x = 6 then 10 + a else 2 * x + a) k)) := by
  refine ⟨rfl, rfl, rfl, fun X hX => ?_⟩
  by_cases h5 : x < 5
  · rw [if_neg (by omega), if_neg (by omega)] at hX
    exact t4_b (M := M) (G := sg x a) (g := 2 * x + a) hX hk h4 (fun i hi N y h hy hK => bE_1 (d := d) hX h5 (by omega) hi h hy hK) (lq_0 x h5 a ha) (fun N f h => ⟨rfl, f, h⟩)
  · rcases (by omega : x = 6 ∨ x = 8) with rfl | rfl
    · exact t4_b (M := M) (G := fun y => nX a (nS a y)) (g := 10 + a) hX hk h4 (fun i hi N y h hy hK => bE_6 (d := d) hX (by omega) hi h hy hK) (lq_6 a ha) (fun N f h => ⟨rfl, f, h⟩)
    · have hb := hb rfl
      exact t4_b (M := M) (G := cpl 7 b a) (g := 12) hX hk h4 (fun i hi N y h hy hK => bE_2 (d := d) (k := 7) (a := b) (b := a) hX (by omega) (by omega) (by omega) (by omega) hi h hy hK) (by rw [hb]; exact lq_8 a ha) (fun N f h => ⟨rfl, f, h⟩)
set_option maxRecDepth 100000 in
theorem ct_t41 {x a : Nat} (hx : x ≤ 2) (ha : a < 2) (hk : k4 k) (h4 : fr4 M k) : am_M (d + 3) false nm_X8_turnBy [aR 58, aI (nI (x + 16)), aI (nI a), aI (nI (1 - a))] M (fun r N => r = .inl none ∧ f4F M N ∧ fr4 N (szP (13 + 2 * x + a) k)) := by
  refine ⟨rfl, rfl, rfl, fun X hX => ?_⟩
  rcases (by omega : x = 0 ∨ x = 1 ∨ x = 2) with rfl | rfl | rfl
  · exact t4_b (M := M) (G := cpl 5 (1 - a) a) (g := 13 + a) hX hk h4 (fun i hi N y h hy hK => bE_2 (d := d) (k := 5) (a := 1 - a) (b := a) hX (by omega) (by omega) (by omega) (by omega) hi h hy hK) (lq_c0 a ha) (fun N f h => ⟨rfl, f, h⟩)
  · exact t4_b (M := M) (G := fun y => nS a (nH a (nC a (1 - a) (nH a (nX a (nS a y)))))) (g := 15 + a) hX hk h4 (fun i hi N y h hy hK => bE_17 (d := d) (a := 1 - a) (b := a) hX (by omega) (by omega) hi h hy hK) (lq_c1 a ha) (fun N f h => ⟨rfl, f, h⟩)
  · exact t4_b (M := M) (G := cpl 6 (1 - a) a) (g := 17 + a) hX hk h4 (fun i hi N y h hy hK => bE_2 (d := d) (k := 6) (a := 1 - a) (b := a) hX (by omega) (by omega) (by omega) (by omega) hi h hy hK) (lq_c2 a ha) (fun N f h => ⟨rfl, f, h⟩)
set_option maxRecDepth 100000 in
/-- turnByOp, exactly -/
theorem ct_t4O {x : bk_X} (ho : ogd 2 x) (hp : pln x) (hk : k4 k) (h4 : fr4 M k) : am_M (d + 4) false nm_X8_turnByOp [aR 58, aI (nI (bk_p x))] M (fun r N => r = .inl none ∧ f4F M N ∧ fr4 N (szP (gC x) k)) := by
  have ow := ho.1
  have c8 := ow.2.2.2.1
  have w2 := ow.2.1
  have hW : 2 ≤ 8 := by decide
  refine ⟨rfl, rfl, rfl, fun X hX => am_run hX 40 _ _ _ _ ?_⟩
  conv => whnf
  refine am_c1 (ct_controlsOf (d := d + 2)) ?_
  rw [bk_cc hW ow]
  conv => whnf
  refine am_c1 (ct_kind (d := d + 2)) ?_
  rw [bk_k hW ow]
  conv => whnf
  rcases hp with ⟨h0, hkk⟩ | ⟨h0, hkk, _⟩
  · have e : gC x = (if x.1 = 8 then 12 else if x.1 = 6 then 10 + x.2.1 else 2 * x.1 + x.2.1) := by
      unfold gC
      rw [if_pos h0]
    rw [h0]
    refine ⟨fun c => absurd rfl c, fun _ => ?_⟩
    conv => whnf
    refine am_c1 (ct_wireOf (d := d + 2)) ?_
    rw [bk_wi hW ow]
    conv => whnf
    refine am_c1 (ct_secondOf (d := d + 2)) ?_
    rw [bk_s hW ow]
    conv => whnf
    refine am_cq (ct_t40 (d := d) hkk w2 (fun q => by have := ho.2.2 q; omega) hk h4) ?_
    rintro r M' ⟨rfl, q⟩
    refine ⟨none, rfl, ?_⟩
    conv => whnf
    exact ⟨trivial, rfl, by rw [e]; exact q⟩
  · have e : gC x = 13 + 2 * x.1 + x.2.1 := by
      unfold gC
      rw [if_neg h0]
    have el := lk_cc x.2.2.2.1 c8 h0 x.2.1 w2 ho.2.1
    refine ⟨fun _ => ?_, fun c => absurd (nI_ne0 (by omega) (by omega)) c⟩
    conv => whnf
    refine am_c1 (ct_wireOf (d := d + 2)) ?_
    rw [bk_wi hW ow]
    conv => whnf
    refine am_c1 (ct_low (d := d + 1) (by omega) (by omega)) ?_
    conv => whnf
    rw [el, show nI x.1 + 16 = nI (x.1 + 16) from by rw [show (16 : Int32) = nI 16 from rfl, nI_add]]
    refine am_cq (ct_t41 (d := d) hkk w2 hk h4) ?_
    rintro r M' ⟨rfl, q⟩
    refine ⟨none, rfl, ?_⟩
    conv => whnf
    exact ⟨trivial, rfl, by rw [e]; exact q⟩
end SHQ
