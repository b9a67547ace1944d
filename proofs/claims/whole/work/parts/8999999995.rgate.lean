/-! THE REFERENCE'S mixAt AND apply -/
theorem vr_ng {K l : Nat} {X y : R4} (h : vr K X l y) : vr K (ng X) l (ng y) := ⟨h.1, by rw [ng_rn, h.2]⟩
/-- one more power: told over it -/
theorem vr_1 {K l : Nat} {X y : R4} (h : vr K X l y) : vr (K + 1) X (l + 1) y := ⟨by have := h.1; omega, by rw [show K + 1 - (l + 1) = K - l by omega]; exact h.2⟩
theorem red_nz {K : Nat} {X : R4} (h : (red K X).1 = (0, 0, 0, 0)) : X = (0, 0, 0, 0) := by
  have e := (vr_red K X).2
  rw [h] at e
  rw [← e]
  have : ∀ n, rn n (0, 0, 0, 0) = (0, 0, 0, 0) := by
    intro n
    induction n with
    | zero => rfl
    | succ n ih => show rr (rn n (0, 0, 0, 0)) = _; rw [ih]; rfl
  exact this _
def rotA {α : Type} (S : Nat → Prop) [∀ i, Decidable (S i)] (F : α → α) (xs : Nat → α) (m : Nat) : Nat → α := fun k => if S k ∧ k < m then F (xs k) else xs k
theorem rotA_s {α : Type} {S : Nat → Prop} [∀ i, Decidable (S i)] {F : α → α} {xs : Nat → α} {m : Nat} (h : S m) : sta (rotA S F xs m) m (F (xs m)) = rotA S F xs (m + 1) := by
  funext k
  unfold sta rotA
  by_cases e : k = m
  · subst e
    rw [if_pos rfl, if_pos ⟨h, by omega⟩]
  · rw [if_neg e]
    by_cases h2 : S k ∧ k < m
    · rw [if_pos h2, if_pos ⟨h2.1, by omega⟩]
    · rw [if_neg h2, if_neg (fun q => h2 ⟨q.1, by omega⟩)]
theorem rotA_n {α : Type} {S : Nat → Prop} [∀ i, Decidable (S i)] {F : α → α} {xs : Nat → α} {m : Nat} (h : ¬ S m) : rotA S F xs m = rotA S F xs (m + 1) := by
  funext k
  unfold rotA
  by_cases h2 : S k ∧ k < m
  · rw [if_pos h2, if_pos ⟨h2.1, by omega⟩]
  · rw [if_neg h2, if_neg (fun q => h2 ⟨q.1, by
      apply Decidable.byContradiction
      intro hc
      have : k = m := by omega
      subst this
      exact h q.1⟩)]
theorem rotA_at {α : Type} {S : Nat → Prop} [∀ i, Decidable (S i)] {F : α → α} {xs : Nat → α} {m : Nat} : rotA S F xs m m = xs m := by
  unfold rotA
  rw [if_neg (by omega)]
theorem sta_m {α β : Type} (f : α → β) (ys : Nat → α) (i : Nat) (v : α) : (fun j => f (sta ys i v j)) = sta (fun j => f (ys j)) i (f v) := by
  funext k
  unfold sta
  by_cases h : k = i
  · rw [if_pos h, if_pos h]
  · rw [if_neg h, if_neg h]
theorem sta_at {α : Type} (ys : Nat → α) (i : Nat) (v : α) : sta ys i v i = v := if_pos rfl
theorem sta_ne {α : Type} (ys : Nat → α) {i j : Nat} (v : α) (h : j ≠ i) : sta ys i v j = ys j := if_neg h
theorem sta_4 {α : Type} (ys : Nat → α) {i j : Nat} (h : i ≠ j) (a b c e : α) : sta (sta (sta (sta ys i a) j b) i c) j e = sta (sta ys i c) j e := by
  funext k
  unfold sta
  by_cases h1 : k = j
  · rw [if_pos h1, if_pos h1]
  · rw [if_neg h1, if_neg h1]
    by_cases h2 : k = i
    · rw [if_pos h2, if_pos h2, if_neg h1]
    · rw [if_neg h2, if_neg h2, if_neg h1, if_neg h2]
section RGA
variable {d : Nat} {M : mm_M} {g : Nat → Int64}
set_option maxRecDepth 100000 in
theorem mi_p {P : am_Q} {X : am_X} {N i j k : Nat} {A B : R4} {q o f : Nat → Int64} {ys : Nat → R4 × Nat} (hX : am_K (d + 3) false nm_X12_mixAt P X) (hN : N ≤ 256) (hi : i < N) (hj : j < N) (hk : k ≤ 1000000) (ei : ys i = red k A) (ej : ys j = red k B) (b : bd (ra A B)) (hK : ∀ o' f', X 2 [some (aR 108), some (aI (nI i)), some (aI (nI j)), some (aI (nI 1))] [] (v4 M (sv q 0 (ov f (red (k + 1) (ra A B)).1 (red (k + 1) (ra A B)).2)) o' f' (c5 g N ys))) : X 2 [some (aR 108), some (aI (nI i)), some (aI (nI j)), some (aI (nI 0))] [] (v4 M q o f (c5 g N ys)) := by
  have hxi := c5_5 (g := g) (ys := ys) hi
  have hxj := c5_5 (g := g) (ys := ys) hj
  rw [ei] at hxi
  rw [ej] at hxj
  have va := vr_red k A
  have vb := (vr_red k B)
  have v2 := vr_ra va vb
  have e2 := vr_u v2
  have l1 := va.1
  have l2 := vb.1
  have vz := vr_red k (ra A B)
  have l3 := vz.1
  have bz := vr_bd vz b
  have e3 : red ((red k (ra A B)).2 + 1) (red k (ra A B)).1 = red (k + 1) (ra A B) := vr_u (vr_1 vz)
  refine am_run hX 3 _ _ _ _ ?_
  conv => whnf
  refine ⟨fun c => absurd c (nI_ge (a := 0) (b := 2) (by decide) (by decide)), fun _ => ?_⟩
  refine am_run hX 15 _ _ _ _ ?_
  conv => whnf
  rw [show (5 : Int32) = nI 5 from rfl, nI_mul]
  refine am_c0 (ct_ld150 (d := d + 2) (by omega) hxi) ?_
  conv => whnf
  refine ⟨fun c => absurd rfl c, fun _ => ?_⟩
  refine am_run hX 6 _ _ _ _ ?_
  conv => whnf
  rw [show (5 : Int32) = nI 5 from rfl, nI_mul]
  refine am_c0 (ct_add150p (d := d + 1) (by omega) (by omega) (by omega) hxj (vr_bd v2 b)) ?_
  rw [e2]
  conv => whnf
  refine am_c1 (ct_one0 (d := d + 2) bz) ?_
  have fin : ∀ {o2 : Nat → Int64}, X 55 [some (aR 108), some (aI (nI i)), some (aI (nI j)), some (aI (nI 0))] [] (mm_l (mm_l (v4 M q o f (c5 g N ys)) 119 o2) 118 (ov ((v4 M q o f (c5 g N ys)).2 118) (red k (ra A B)).1 ((red k (ra A B)).2 + 1))) := by
    intro o2
    refine am_run hX 14 _ _ _ _ ?_
    conv => whnf
    refine am_c0 (ct_red (d := d + 2) (by omega) bz) ?_
    rw [e3]
    conv => whnf
    rw [show (5 : Int32) * nI 0 = nI 0 from by decide]
    refine am_c0 (ct_store152 (d := d + 2) (a := 0) (by omega)) ?_
    rw [v4_o, v4_f, v4_q, v4_152, v4_118, v4_118]
    conv => whnf
    rw [nI_1]
    exact hK _ _
  by_cases hz : (red k (ra A B)).1 = (0, 0, 0, 0)
  · rw [if_pos hz]
    have hX0 := red_nz hz
    conv => whnf
    refine ⟨fun _ => ?_, fun c => absurd (by decide) c⟩
    refine am_run hX 14 _ _ _ _ ?_
    conv => whnf
    refine am_c0 (ct_red (d := d + 2) (by omega) bz) ?_
    rw [show red (red k (ra A B)).2 (red k (ra A B)).1 = red (k + 1) (ra A B) from by rw [vr_u vz, hX0, red_0, red_0]]
    conv => whnf
    rw [show (5 : Int32) * nI 0 = nI 0 from by decide]
    refine am_c0 (ct_store152 (d := d + 2) (a := 0) (by omega)) ?_
    rw [v4_o, v4_f, v4_q, v4_152, v4_118, v4_118]
    conv => whnf
    rw [nI_1]
    exact hK _ _
  · rw [if_neg hz]
    conv => whnf
    refine ⟨fun c => absurd rfl c, fun _ => ?_⟩
    refine am_run hX 8 _ _ _ _ ?_
    conv => whnf
    refine ⟨by first | exact i5_0 | exact i5_1 | exact i5_2 | exact i5_3 | exact i5_4 | decide, ?_⟩
    conv => whnf
    refine ⟨by first | exact i5_0 | exact i5_1 | exact i5_2 | exact i5_3 | exact i5_4 | decide, ?_⟩
    conv => whnf
    simp only [mm_l2, mm_ll, k_4, ov_4]
    rw [show (1 : Int64) = lI 1 from by decide, lI_add, show (((red k (ra A B)).2 : Nat) : Int) + 1 = (((red k (ra A B)).2 + 1 : Nat) : Int) by omega, ov_u4]
    exact fin
set_option maxRecDepth 100000 in
theorem mi_m {P : am_Q} {X : am_X} {N i j k : Nat} {A B : R4} {q o f : Nat → Int64} {ys : Nat → R4 × Nat} (hX : am_K (d + 3) false nm_X12_mixAt P X) (hN : N ≤ 256) (hi : i < N) (hj : j < N) (hk : k ≤ 1000000) (ei : ys i = red k A) (ej : ys j = red k B) (b : bd (ra A (ng B))) (hK : ∀ o' f', X 2 [some (aR 108), some (aI (nI i)), some (aI (nI j)), some (aI (nI 2))] [] (v4 M (sv q 5 (ov f (red (k + 1) (ra A (ng B))).1 (red (k + 1) (ra A (ng B))).2)) o' f' (c5 g N ys))) : X 2 [some (aR 108), some (aI (nI i)), some (aI (nI j)), some (aI (nI 1))] [] (v4 M q o f (c5 g N ys)) := by
  have hxi := c5_5 (g := g) (ys := ys) hi
  have hxj := c5_5 (g := g) (ys := ys) hj
  rw [ei] at hxi
  rw [ej] at hxj
  have va := vr_red k A
  have vb := (vr_ng (vr_red k B))
  have v2 := vr_ra va vb
  have e2 := vr_u v2
  have l1 := va.1
  have l2 := vb.1
  have vz := vr_red k (ra A (ng B))
  have l3 := vz.1
  have bz := vr_bd vz b
  have e3 : red ((red k (ra A (ng B))).2 + 1) (red k (ra A (ng B))).1 = red (k + 1) (ra A (ng B)) := vr_u (vr_1 vz)
  refine am_run hX 3 _ _ _ _ ?_
  conv => whnf
  refine ⟨fun c => absurd c (nI_ge (a := 1) (b := 2) (by decide) (by decide)), fun _ => ?_⟩
  refine am_run hX 15 _ _ _ _ ?_
  conv => whnf
  rw [show (5 : Int32) = nI 5 from rfl, nI_mul]
  refine am_c0 (ct_ld150 (d := d + 2) (by omega) hxi) ?_
  conv => whnf
  refine ⟨fun _ => ?_, fun c => absurd (by decide) c⟩
  refine am_run hX 5 _ _ _ _ ?_
  conv => whnf
  rw [show (5 : Int32) = nI 5 from rfl, nI_mul]
  refine am_c0 (ct_add150m (d := d + 1) (by omega) (by omega) (by omega) hxj (vr_bd v2 b)) ?_
  rw [e2]
  conv => whnf
  refine am_c1 (ct_one0 (d := d + 2) bz) ?_
  have fin : ∀ {o2 : Nat → Int64}, X 55 [some (aR 108), some (aI (nI i)), some (aI (nI j)), some (aI (nI 1))] [] (mm_l (mm_l (v4 M q o f (c5 g N ys)) 119 o2) 118 (ov ((v4 M q o f (c5 g N ys)).2 118) (red k (ra A (ng B))).1 ((red k (ra A (ng B))).2 + 1))) := by
    intro o2
    refine am_run hX 14 _ _ _ _ ?_
    conv => whnf
    refine am_c0 (ct_red (d := d + 2) (by omega) bz) ?_
    rw [e3]
    conv => whnf
    rw [show (5 : Int32) * nI 1 = nI 5 from by decide]
    refine am_c0 (ct_store152 (d := d + 2) (a := 5) (by omega)) ?_
    rw [v4_o, v4_f, v4_q, v4_152, v4_118, v4_118]
    conv => whnf
    rw [nI_1]
    exact hK _ _
  by_cases hz : (red k (ra A (ng B))).1 = (0, 0, 0, 0)
  · rw [if_pos hz]
    have hX0 := red_nz hz
    conv => whnf
    refine ⟨fun _ => ?_, fun c => absurd (by decide) c⟩
    refine am_run hX 14 _ _ _ _ ?_
    conv => whnf
    refine am_c0 (ct_red (d := d + 2) (by omega) bz) ?_
    rw [show red (red k (ra A (ng B))).2 (red k (ra A (ng B))).1 = red (k + 1) (ra A (ng B)) from by rw [vr_u vz, hX0, red_0, red_0]]
    conv => whnf
    rw [show (5 : Int32) * nI 1 = nI 5 from by decide]
    refine am_c0 (ct_store152 (d := d + 2) (a := 5) (by omega)) ?_
    rw [v4_o, v4_f, v4_q, v4_152, v4_118, v4_118]
    conv => whnf
    rw [nI_1]
    exact hK _ _
  · rw [if_neg hz]
    conv => whnf
    refine ⟨fun c => absurd rfl c, fun _ => ?_⟩
    refine am_run hX 8 _ _ _ _ ?_
    conv => whnf
    refine ⟨by first | exact i5_0 | exact i5_1 | exact i5_2 | exact i5_3 | exact i5_4 | decide, ?_⟩
    conv => whnf
    refine ⟨by first | exact i5_0 | exact i5_1 | exact i5_2 | exact i5_3 | exact i5_4 | decide, ?_⟩
    conv => whnf
    simp only [mm_l2, mm_ll, k_4, ov_4]
    rw [show (1 : Int64) = lI 1 from by decide, lI_add, show (((red k (ra A (ng B))).2 : Nat) : Int) + 1 = (((red k (ra A (ng B))).2 + 1 : Nat) : Int) by omega, ov_u4]
    exact fin
set_option maxRecDepth 100000 in
theorem ct_mixAt {N i j k : Nat} {A B : R4} {q o f : Nat → Int64} {ys : Nat → R4 × Nat} (hN : N ≤ 256) (hi : i < N) (hj : j < N) (hk : k ≤ 1000000) (ei : ys i = red k A) (ej : ys j = red k B) (b1 : bd (ra A B)) (b2 : bd (ra A (ng B))) : am_M (d + 4) false nm_X12_mixAt [aR 108, aI (nI i), aI (nI j)] (v4 M q o f (c5 g N ys)) (fun r M' => r = .inl none ∧ ∃ q' o' f', M' = v4 M q' o' f' (c5 g N (sta (sta ys i (red (k + 1) (ra A B))) j (red (k + 1) (ra A (ng B)))))) := by
  refine ⟨rfl, rfl, rfl, fun X hX => am_run hX 2 _ _ _ _ ?_⟩
  conv => whnf
  refine mi_p hX hN hi hj hk ei ej b1 fun o1 f1 => ?_
  refine mi_m hX hN hi hj hk ei ej b2 fun o2 f2 => ?_
  refine am_run hX 60 _ _ _ _ ?_
  conv => whnf
  refine ⟨fun _ => ?_, fun c => absurd (by decide) c⟩
  conv => whnf
  refine am_c0 (ct_ld152 (d := d + 2) (a := 0) (by omega) (at_ne (at_sv _ _ _ _ _) (by omega))) ?_
  conv => whnf
  rw [show (5 : Int32) = nI 5 from rfl, nI_mul]
  refine am_c0 (ct_store150 (d := d + 2) (by omega)) ?_
  rw [v4_f, v4_s, v4_150, v4_118, v4_118, c5_sv (red (k + 1) (ra A B)) hi]
  conv => whnf
  refine am_c0 (ct_ld152 (d := d + 2) (a := 5) (by omega) (at_sv _ _ _ _ _)) ?_
  conv => whnf
  rw [show (5 : Int32) = nI 5 from rfl, nI_mul]
  refine am_c0 (ct_store150 (d := d + 2) (by omega)) ?_
  rw [v4_f, v4_s, v4_150, v4_118, v4_118, c5_sv (red (k + 1) (ra A (ng B))) hj]
  conv => whnf
  exact ⟨trivial, rfl, _, _, _, rfl⟩
end RGA
