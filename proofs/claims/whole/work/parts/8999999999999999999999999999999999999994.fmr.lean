/-! FORM: the class's words -/
def frL (q : Nat) : Nat := ([0, 0, 1, 3, 4, 5, 6, 7, 9, 10, 11, 13, 14, 15, 17, 19, 23, 25, 28, 29, 31, 32, 33, 35] : List Nat).getD q 0
def kyG (q : Nat) : Nat := kyL.getD q 0
def knm (k : Nat × Nat) : Nat := k.1 + 8 * k.2
def kyT (s : Nat) : Nat := knm (tgK (if s % 2 = 0 then 3 else 4) (kyP (s / 2)))
def fyB (s : Nat) : Bool := if anN (fun q => decide (kyG q = kyT s)) (fcN s) = true then decide (fcN (s + 1) = fcN s) else decide (fcN (s + 1) = fcN s + 1) && decide (kyG (fcN s) = kyT s) && decide (frL (fcN s) = s)
set_option maxRecDepth 100000 in
theorem fy_all : ((List.range 48).all fyB) = true := by decide +kernel
theorem fy_s {s : Nat} (hs : s < 48) : (anN (fun q => decide (kyG q = kyT s)) (fcN s) = true ∧ fcN (s + 1) = fcN s) ∨ (anN (fun q => decide (kyG q = kyT s)) (fcN s) = false ∧ fcN (s + 1) = fcN s + 1 ∧ kyG (fcN s) = kyT s ∧ frL (fcN s) = s) := by
  have h := List.all_eq_true.mp fy_all s (List.mem_range.mpr hs)
  unfold fyB at h
  cases hq : anN (fun q => decide (kyG q = kyT s)) (fcN s) with
  | true =>
    rw [hq, if_pos rfl] at h
    exact Or.inl ⟨rfl, of_decide_eq_true h⟩
  | false =>
    rw [hq, if_neg (by decide)] at h
    obtain ⟨h, c⟩ := (Bool.and_eq_true _ _).mp h
    obtain ⟨a, b⟩ := (Bool.and_eq_true _ _).mp h
    exact Or.inr ⟨rfl, of_decide_eq_true a, of_decide_eq_true b, of_decide_eq_true c⟩
theorem ky_b : ∀ q, q < 24 → kyG q < 64 ∧ (kyP q).1 < 8 ∧ (kyP q).2 < 8 ∧ (nI (kyG q) &&& 7 = nI (kyP q).1) ∧ (nI (kyG q) >>> ((3 : Int32) &&& 31) = nI (kyP q).2) := by decide +kernel
theorem by_e : ∀ i, i < 24 → ∀ l, l < 2 → nI i <<< ((1 : Int32) &&& 31) ||| nI l = nI (2 * i + l) := by decide +kernel
/-- the class's words so far -/
def wtN (N : mm_M) (n : Nat) : Prop := N.1 57 10 = nI n ∧ ∀ q, q < n → N.1 68 q = nI (kyG q) ∧ (0 < q → N.1 69 q = nI (frL q))
def mwF (M N : mm_M) : Prop := (∀ k, k ≠ 57 → k ≠ 68 → k ≠ 69 → N.1 k = M.1 k) ∧ (∀ y, y ≠ 10 → y ≠ 12 → y ≠ 13 → N.1 57 y = M.1 57 y) ∧ N.2 = M.2
theorem mwF_r (M : mm_M) : mwF M M := ⟨fun _ _ _ _ => rfl, fun _ _ _ _ => rfl, rfl⟩
theorem mwF_t {M N K : mm_M} (h : mwF M N) (g : mwF N K) : mwF M K := ⟨fun k a b c => (g.1 k a b c).trans (h.1 k a b c), fun y a b c => (g.2.1 y a b c).trans (h.2.1 y a b c), g.2.2.trans h.2.2⟩
theorem mwF_i {M N : mm_M} (h : imF M N) : mwF M N := ⟨fun k a _ _ => h.1 k a, fun y _ a b => h.2.1 y a b, h.2.2⟩
theorem wtN_i {M N : mm_M} {n : Nat} (h : imF M N) (g : wtN M n) : wtN N n := ⟨by rw [h.2.1 10 (by decide) (by decide)]; exact g.1, fun q hq => by rw [h.1 68 (by decide), h.1 69 (by decide)]; exact g.2 q hq⟩
section FMR
variable {d : Nat} {M : mm_M}
set_option maxRecDepth 100000 in
theorem ak_l {P : am_Q} {X : am_X} {n key by' : Nat} (hX : am_K d false nm_X2_addWordKey P X) (n24 : n ≤ 24) (hk : key < 64) (h : wtN M n) (hY : anN (fun q => decide (kyG q = key)) n = true → P (.inl none) M) (hN : anN (fun q => decide (kyG q = key)) n = false → X 27 [some (aR 57), some (aI (nI key)), some (aI (nI by')), some (aI (nI n))] [] M) : ∀ (m k : Nat), k + m = n → anN (fun q => decide (kyG q = key)) k = false → X 2 [some (aR 57), some (aI (nI key)), some (aI (nI by')), some (aI (nI k))] [] M := by
  intro m
  induction m with
  | zero =>
    intro k hk' ha
    obtain rfl : k = n := by omega
    refine am_run hX 4 _ _ _ _ ?_
    conv => whnf
    rw [h.1]
    exact ⟨fun _ => hN ha, fun z => absurd (nI_le (Nat.le_refl _) (by omega)) z⟩
  | succ m ih =>
    intro k hk' ha
    have kn : k < n := by omega
    have kb := ky_b k (by omega)
    refine am_run hX 4 _ _ _ _ ?_
    conv => whnf
    rw [h.1]
    refine ⟨fun z => absurd z (nI_ge (by omega) (by omega)), fun _ => ?_⟩
    refine am_run hX 6 _ _ _ _ ?_
    conv => whnf
    refine ⟨vp_in_nI (by show k < 24; omega) (by decide), ?_⟩
    conv => whnf
    rw [nI_clamp (n := k) (by omega), (h.2 k kn).1, nI_eq (by omega) (by omega)]
    by_cases e : kyG k = key
    · refine ⟨fun z => absurd e z, fun _ => ?_⟩
      refine am_run hX 1 _ _ _ _ ?_
      conv => whnf
      exact ⟨trivial, hY ((an_iff n).mpr ⟨k, kn, decide_eq_true e⟩)⟩
    · refine ⟨fun _ => ?_, fun z => absurd e z⟩
      refine am_run hX 2 _ _ _ _ ?_
      conv => whnf
      rw [nI_1]
      refine ih (k + 1) (by omega) ?_
      show (anN (fun q => decide (kyG q = key)) k || decide (kyG k = key)) = false
      rw [ha, decide_eq_false e]
      rfl
set_option maxRecDepth 100000 in
theorem ct_akey {s : Nat} (hs : s < 48) (h : wtN M (fcN s)) : am_M (d + 1) false nm_X2_addWordKey [aR 57, aI (nI (kyT s)), aI (nI s)] M (fun r N => r = .inl none ∧ mwF M N ∧ wtN N (fcN (s + 1)) ∧ (∀ y, y ≠ 10 → N.1 57 y = M.1 57 y)) := by
  obtain ⟨n24, _, n1⟩ := cn_f s (by omega)
  have kt : kyT s < 64 := by
    have : ∀ s, s < 48 → kyT s < 64 := by decide +kernel
    exact this s hs
  have hf := fy_s hs
  have n24' := (cn_f (s + 1) (by omega)).1
  refine ⟨rfl, rfl, rfl, fun X hX => am_run hX 2 _ _ _ _ ?_⟩
  conv => whnf
  refine ak_l (M := M) (n := fcN s) (key := kyT s) (by' := s) hX n24 kt h (fun hy => ?_) (fun hn => ?_) (fcN s) 0 (by omega) rfl
  · rcases hf with ⟨_, e⟩ | ⟨e, _⟩
    · exact ⟨rfl, mwF_r M, by rw [e]; exact h, fun _ _ => rfl⟩
    · rw [e] at hy
      exact absurd hy (by decide)
  · rcases hf with ⟨e, _⟩ | ⟨_, e, ek, ef⟩
    · rw [e] at hn
      exact absurd hn (by decide)
    · generalize hnn : fcN s = n at *
      have n23 : n < 24 := by omega
      refine am_run hX 4 _ _ _ _ ?_
      conv => whnf
      rw [h.1]
      refine ⟨fun z => absurd z (nI_ge (a := n) (b := 24) n23 (by decide)), fun _ => ?_⟩
      refine am_run hX 6 _ _ _ _ ?_
      conv => whnf
      rw [h.1]
      refine ⟨vp_in_nI (by show n < 24; omega) (by decide), ?_⟩
      rw [nI_clamp (n := n) (by omega)]
      generalize hN1 : mm_i M 68 _ = N1
      have a1 : ∀ k, k ≠ 68 → N1.1 k = M.1 k := fun k hk => by rw [← hN1, mm_ne _ _ _ _ hk]
      have a2 : N1.1 68 = upd (M.1 68) n (nI (kyT s)) := by rw [← hN1, mm_i1]
      have a3 : N1.2 = M.2 := by rw [← hN1]; rfl
      refine am_run hX 6 _ _ _ _ ?_
      conv => whnf
      rw [a1 57 (by decide), h.1]
      refine ⟨vp_in_nI (by show n < 24; omega) (by decide), ?_⟩
      rw [nI_clamp (n := n) (by omega)]
      generalize hN2 : mm_i N1 69 _ = N2
      have b1 : ∀ k, k ≠ 69 → N2.1 k = N1.1 k := fun k hk => by rw [← hN2, mm_ne _ _ _ _ hk]
      have b2 : N2.1 69 = upd (N1.1 69) n (nI s) := by rw [← hN2, mm_i1]
      have b3 : N2.2 = N1.2 := by rw [← hN2]; rfl
      refine am_run hX 6 _ _ _ _ ?_
      conv => whnf
      rw [b1 57 (by decide), a1 57 (by decide), h.1, nI_1]
      generalize hN3 : mm_i N2 57 _ = N3
      have c1 : ∀ k, k ≠ 57 → N3.1 k = N2.1 k := fun k hk => by rw [← hN3, mm_ne _ _ _ _ hk]
      have c2 : N3.1 57 = upd (M.1 57) 10 (nI (n + 1)) := by rw [← hN3, mm_i1]
      have c3 : N3.2 = N2.2 := by rw [← hN3]; rfl
      refine am_run hX 1 _ _ _ _ ?_
      conv => whnf
      refine ⟨trivial, rfl, ⟨fun k a b c => by rw [c1 k a, b1 k c, a1 k b], fun y a _ _ => by rw [c2, up_ne a], by rw [c3, b3, a3]⟩, ?_, fun y hy => by rw [c2, up_ne hy]⟩
      rw [e]
      refine ⟨by rw [c2]; exact up_at, fun q hq => ?_⟩
      rw [c1 68 (by decide), b1 68 (by decide), a2, c1 69 (by decide), b2, a1 69 (by decide)]
      by_cases eq : q = n
      · subst eq
        rw [up_at, up_at, ek, ef]
        exact ⟨rfl, fun _ => rfl⟩
      · rw [up_ne eq, up_ne eq]
        exact h.2 q (by omega)
set_option maxRecDepth 100000 in
theorem mk_l {P : am_Q} {X : am_X} {s : Nat} (hX : am_K (d + 4) false nm_X2_makeWords P X) (hs : s < 48) (h : wtN M (fcN s)) (hE : ∀ N, mwF M N → wtN N (fcN (s + 1)) → X 39 [some (aR 57), some (aI (nI (s / 2))), some (aI (nI (s % 2 + 1)))] [] N) : X 39 [some (aR 57), some (aI (nI (s / 2))), some (aI (nI (s % 2)))] [] M := by
  obtain ⟨n24, hi, _⟩ := cn_f s (by omega)
  have hi := hi hs
  obtain ⟨k64, p1, p2, e7, e3⟩ := ky_b (s / 2) (by omega)
  refine am_run hX 3 _ _ _ _ ?_
  conv => whnf
  refine ⟨fun z => absurd z (nI_ge (a := s % 2) (b := 2) (by omega) (by decide)), fun _ => ?_⟩
  refine am_run hX 8 _ _ _ _ ?_
  conv => whnf
  refine ⟨vp_in_nI (by show s / 2 < 24; omega) (by decide), ?_⟩
  conv => whnf
  rw [nI_clamp (n := s / 2) (by omega), (h.2 _ hi).1, e7]
  generalize hN1 : mm_i M 57 _ = N1
  have a1 : ∀ k, k ≠ 57 → N1.1 k = M.1 k := fun k hk => by rw [← hN1, mm_ne _ _ _ _ hk]
  have a2 : N1.1 57 = upd (M.1 57) 12 (nI (kyP (s / 2)).1) := by rw [← hN1, mm_i1]
  have a3 : N1.2 = M.2 := by rw [← hN1]; rfl
  refine am_run hX 8 _ _ _ _ ?_
  conv => whnf
  refine ⟨vp_in_nI (by show s / 2 < 24; omega) (by decide), ?_⟩
  conv => whnf
  rw [nI_clamp (n := s / 2) (by omega), a1 68 (by decide), (h.2 _ hi).1, e3]
  generalize hN2 : mm_i N1 57 _ = N2
  have b1 : ∀ k, k ≠ 57 → N2.1 k = N1.1 k := fun k hk => by rw [← hN2, mm_ne _ _ _ _ hk]
  have b2 : N2.1 57 = upd (N1.1 57) 13 (nI (kyP (s / 2)).2) := by rw [← hN2, mm_i1]
  have b3 : N2.2 = N1.2 := by rw [← hN2]; rfl
  have F2 : imF M N2 := ⟨fun k a => by rw [b1 k a, a1 k a], fun y a b => by rw [b2, up_ne b, a2, up_ne a], by rw [b3, a3]⟩
  have I2 : imS N2 (kyP (s / 2)) := ⟨by rw [b2, up_ne (by decide), a2]; exact up_at, by rw [b2]; exact up_at, p1, p2⟩
  have go : ∀ v : Int32, v = nI (if s % 2 = 0 then 3 else 4) → X 79 [some (aR 57), some (aI (nI (s / 2))), some (aI (nI (s % 2)))] [aI v, aR 57] N2 := by
    intro v hv
    subst hv
    refine am_run hX 1 _ _ _ _ ?_
    conv => whnf
    refine am_cq (ct_tGi (d := d) (M := N2) (g := if s % 2 = 0 then 3 else 4) (by split <;> first | exact Or.inl rfl | exact Or.inr rfl) I2) ?_
    rintro r3 N3 ⟨rfl, f3, i3⟩
    refine ⟨none, rfl, ?_⟩
    have F3 := imF_t F2 f3
    refine am_run hX 14 _ _ _ _ ?_
    conv => whnf
    rw [i3.1, i3.2.1, kn_e _ i3.2.2.1 _ i3.2.2.2, by_e _ (by omega) _ (by omega), show 2 * (s / 2) + s % 2 = s by omega]
    refine am_cq (ct_akey (d := d + 3) (M := N3) hs (wtN_i F3 h)) ?_
    rintro r4 N4 ⟨rfl, f4, t4, _⟩
    refine ⟨none, rfl, ?_⟩
    refine am_run hX 2 _ _ _ _ ?_
    conv => whnf
    rw [nI_1]
    exact hE N4 (mwF_t (mwF_i F3) f4) t4
  refine am_run hX 3 _ _ _ _ ?_
  conv => whnf
  by_cases q : s % 2 = 0
  · rw [q] at go ⊢
    refine ⟨fun z => absurd rfl z, fun _ => ?_⟩
    refine am_run hX 2 _ _ _ _ ?_
    conv => whnf
    exact go _ rfl
  · have q1 : s % 2 = 1 := by omega
    rw [q1] at go ⊢
    refine ⟨fun _ => ?_, fun z => absurd (by decide) z⟩
    refine am_run hX 1 _ _ _ _ ?_
    conv => whnf
    exact go _ rfl
set_option maxRecDepth 100000 in
theorem mk_o {P : am_Q} {X : am_X} (hX : am_K (d + 4) false nm_X2_makeWords P X) (hP : ∀ N, mwF M N → wtN N 24 → P (.inl none) N) : ∀ (m i : Nat) (N : mm_M) (v2 : Option am_V), i + m = 24 → mwF M N → wtN N (fcN (2 * i)) → X 23 [some (aR 57), some (aI (nI i)), v2] [] N := by
  intro m
  induction m with
  | zero =>
    intro i N v2 hi hF hT
    obtain rfl : i = 24 := by omega
    have hT : wtN N 24 := hT
    refine am_run hX 4 _ _ _ _ ?_
    conv => whnf
    rw [hT.1]
    refine ⟨fun _ => ?_, fun z => absurd (by decide) z⟩
    refine am_run hX 1 _ _ _ _ ?_
    conv => whnf
    exact ⟨trivial, hP N hF hT⟩
  | succ m ih =>
    intro i N v2 hi hF hT
    obtain ⟨n24, hlt, _⟩ := cn_f (2 * i) (by omega)
    have hlt := hlt (by omega)
    refine am_run hX 4 _ _ _ _ ?_
    conv => whnf
    rw [hT.1]
    refine ⟨fun z => absurd z (nI_ge (by omega) (by omega)), fun _ => ?_⟩
    refine am_run hX 3 _ _ _ _ ?_
    conv => whnf
    refine ⟨fun z => absurd z (nI_ge (a := i) (b := 24) (by omega) (by decide)), fun _ => ?_⟩
    refine am_run hX 2 _ _ _ _ ?_
    conv => whnf
    have key := mk_l (d := d) (M := N) (s := 2 * i) hX (by omega) hT (fun N1 f1 t1 => ?_)
    · rw [show 2 * i / 2 = i by omega, show 2 * i % 2 = 0 by omega] at key
      exact key
    · rw [show 2 * i / 2 = i by omega, show 2 * i % 2 + 1 = 1 by omega]
      have key := mk_l (d := d) (M := N1) (s := 2 * i + 1) hX (by omega) t1 (fun N2 f2 t2 => ?_)
      · rw [show (2 * i + 1) / 2 = i by omega, show (2 * i + 1) % 2 = 1 by omega] at key
        exact key
      · rw [show (2 * i + 1) / 2 = i by omega, show (2 * i + 1) % 2 + 1 = 2 by omega]
        refine am_run hX 3 _ _ _ _ ?_
        conv => whnf
        refine ⟨fun _ => ?_, fun z => absurd (by decide) z⟩
        refine am_run hX 2 _ _ _ _ ?_
        conv => whnf
        rw [nI_1]
        exact ih (i + 1) N2 _ (by omega) (mwF_t hF (mwF_t f1 f2)) t2
/-- the words are not known yet, or all are -/
def wtI (M : mm_M) : Prop := M.1 57 10 = 0 ∨ wtN M 24
set_option maxRecDepth 100000 in
theorem ct_mkWs (h : wtI M) : am_M (d + 5) false nm_X2_makeWords [aR 57] M (fun r N => r = .inl none ∧ mwF M N ∧ wtN N 24) := by
  refine ⟨rfl, rfl, rfl, fun X hX => am_run hX 3 _ _ _ _ ?_⟩
  conv => whnf
  rcases h with h | h
  · rw [h]
    refine ⟨fun _ => ?_, fun z => absurd rfl z⟩
    refine am_run hX 5 _ _ _ _ ?_
    conv => whnf
    refine ⟨show vp_in (nI 0) 24 from vp_in_nI (by decide) (by decide), ?_⟩
    generalize hN1 : mm_i M 68 _ = N1
    have a1 : ∀ k, k ≠ 68 → N1.1 k = M.1 k := fun k hk => by rw [← hN1, mm_ne _ _ _ _ hk]
    have a2 : N1.1 68 0 = 17 := by rw [← hN1, mm_i1]; rfl
    have a3 : N1.2 = M.2 := by rw [← hN1]; rfl
    refine am_run hX 3 _ _ _ _ ?_
    conv => whnf
    generalize hN2 : mm_i N1 57 _ = N2
    have b1 : ∀ k, k ≠ 57 → N2.1 k = N1.1 k := fun k hk => by rw [← hN2, mm_ne _ _ _ _ hk]
    have b2 : N2.1 57 = upd (N1.1 57) 10 1 := by rw [← hN2, mm_i1]
    have b3 : N2.2 = N1.2 := by rw [← hN2]; rfl
    refine am_run hX 2 _ _ _ _ ?_
    conv => whnf
    refine mk_o (d := d) (M := M) hX (fun N a b => ⟨rfl, a, b⟩) 24 0 N2 none (by omega) ⟨fun k a b _ => by rw [b1 k a, a1 k b], fun y a _ _ => by rw [b2, up_ne a, a1 57 (by decide)], by rw [b3, a3]⟩ ⟨by rw [b2]; exact up_at, fun q hq => ?_⟩
    have hq : q < 1 := hq
    obtain rfl : q = 0 := by omega
    exact ⟨by rw [b1 68 (by decide)]; exact a2, fun z => absurd z (Nat.lt_irrefl _)⟩
  · rw [h.1]
    refine ⟨fun z => absurd z (by decide), fun _ => ?_⟩
    refine am_run hX 1 _ _ _ _ ?_
    conv => whnf
    exact ⟨trivial, rfl, mwF_r M, h⟩
end FMR
