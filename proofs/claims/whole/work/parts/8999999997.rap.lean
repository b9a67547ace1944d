/-! THE REFERENCE'S apply, PUT TOGETHER; THE SUM OF THE SQUARES -/
theorem pm_mp {α β : Type} {S : Nat → Prop} [∀ i, Decidable (S i)] {c : Nat} {f h : α → α → α} {f' h' : β → β → β} {F : α → β} (hf : ∀ a b, f' (F a) (F b) = F (f a b)) (hh : ∀ a b, h' (F a) (F b) = F (h a b)) (xs : Nat → α) (m k : Nat) : pm S c f' h' (fun j => F (xs j)) m k = F (pm S c f h xs m k) := by
  unfold pm
  by_cases h1 : S k ∧ k < m
  · rw [if_pos h1, if_pos h1, hf]
  · rw [if_neg h1, if_neg h1]
    by_cases h2 : S (k ^^^ c) ∧ k ^^^ c < m
    · rw [if_pos h2, if_pos h2, hh]
    · rw [if_neg h2, if_neg h2]
theorem rotA_mp {S : Nat → Prop} [∀ i, Decidable (S i)] {k e : Nat} (xs : Nat → R4) (m j : Nat) : rotA S (fun y : R4 × Nat => (t8n e y.1, y.2)) (fun j => red k (xs j)) m j = red k (rotm S (t8n e) xs m j) := by
  unfold rotA rotm
  by_cases h : S j ∧ j < m
  · rw [if_pos h, if_pos h, red_t8n]
  · rw [if_neg h, if_neg h]
/-- h: every place is told -/
theorem rh_e {t c W k : Nat} {xs : Nat → R4} (ht : t < W) (h : c.testBit t = false) {j : Nat} (hj : j < 2 ^ W) : (pm (gS0 t c) (2 ^ t) (fun a b => (red (k + 1) (ra a.2 b.2), a.2)) (fun a b => (red (k + 1) (ra a.2 (ng b.2)), a.2)) (fun j => (red k (xs j), xs j)) (2 ^ W) j).1 = red (k + 1) (bh (fun i => i &&& c = c) (gS0 t c) (2 ^ t) xs (2 ^ W) j) := by
  have htl : 2 ^ t < 2 ^ W := Nat.pow_lt_pow_right (by decide) ht
  have hj2 := xq_lt hj htl
  unfold bh pm
  by_cases h1 : gS0 t c j
  · rw [if_pos ⟨h1, hj⟩, if_pos h1.1, if_pos ⟨h1, hj⟩]
  · rw [if_neg (fun q => h1 q.1)]
    by_cases h2 : gS0 t c (j ^^^ 2 ^ t)
    · have h3 := (g0_x h).mp h2
      rw [if_pos ⟨h2, hj2⟩, if_pos h3.1, if_neg (fun q => h1 q.1), if_pos ⟨h2, hj2⟩]
    · rw [if_neg (fun q => h2 q.1)]
      have hA : ¬ j &&& c = c := fun q => by
        cases e : j.testBit t with
        | false => exact h1 ⟨q, e⟩
        | true => exact h2 ((g0_x h).mpr ⟨q, e⟩)
      rw [if_neg hA, if_pos hj, red_rr]
section RAQ
variable {d : Nat} {M : mm_M} {g : Nat → Int64}
set_option maxRecDepth 100000 in
theorem ct_rap {a k kd t s c W : Nat} {xs : Nat → R4} {q o f : Nat → Int64} (ho : rop M a kd t s c W) (hap : apo kd t s c W) (h8 : kd ≤ 8) (hk : k ≤ 1000) (hb : ∀ i, i < 2 ^ W → bd (gx kd t s c false (2 ^ W) xs i)) : am_M (d + 5) false nm_X12_apply [aR 108, aI (nI a)] (v4 M q o f (c5 g (2 ^ W) (fun j => red k (xs j)))) (fun r M' => r = .inl none ∧ ∃ q' o' f', M' = v4 (mm_i M 108 (upd (M.1 108) 74 0)) q' o' f' (c5 g (2 ^ W) (fun j => red (if kd = 3 then k + 1 else k) (gx kd t s c false (2 ^ W) xs j)))) := by
  have ho1 : rop (mm_i M 108 (upd (M.1 108) 74 0)) a kd t s c W := by
    obtain ⟨x1, x2, x3, x4, x5, x6, x7, x8⟩ := ho
    exact ⟨x1, x2, by rw [mm_i1]; exact x3, x4, x5, x6, x7, x8⟩
  obtain ⟨ha, w8, hw, hkd, ht, hs, hc, hs8⟩ := ho
  have htw := hap.1
  have hcw := hap.2.1
  have hct := hap.2.2.1
  have hw8 := w256 w8
  have htl : 2 ^ t < 2 ^ W := Nat.pow_lt_pow_right (by decide) htw
  refine ⟨rfl, rfl, rfl, fun X hX => am_run hX 24 _ _ _ _ ?_⟩
  conv => whnf
  refine ⟨vp_in_nI (by show _ < 6300; omega) (by decide), ?_⟩
  conv => whnf
  refine ⟨vp_in_nI (by show _ < 6300; omega) (by decide), ?_⟩
  conv => whnf
  refine ⟨vp_in_nI (by show _ < 6300; omega) (by decide), ?_⟩
  conv => whnf
  refine ⟨⟨rfl, rfl⟩, ?_⟩
  conv => whnf
  rw [nI_clamp (n := a) (by omega), show (v4 M q o f (c5 g (2 ^ W) (fun j => red k (xs j)))).1 115 a = nI c from hc, show (v4 M q o f (c5 g (2 ^ W) (fun j => red k (xs j)))).1 113 a = nI t from ht, show (v4 M q o f (c5 g (2 ^ W) (fun j => red k (xs j)))).1 114 a = nI s from hs, sh2 t (by omega), sh2 s (by omega)]
  have go : ∀ (Y : Nat → Nat → R4 × Nat), Y 0 = (fun j => red k (xs j)) → (∀ (m i : Nat), i + m = 2 ^ W → ∀ q o f l6, X 34 [some (aR 108), some (aI (nI a)), some (aI (nI c)), some (aI (nI (2 ^ t))), some (aI (nI (2 ^ s))), some (aI (nI i)), l6] [] (v4 (mm_i M 108 (upd (M.1 108) 74 0)) q o f (c5 g (2 ^ W) (Y i)))) → X 34 [some (aR 108), some (aI (nI a)), some (aI (nI c)), some (aI (nI (2 ^ t))), some (aI (nI (2 ^ s))), some (aI (nI 0)), none] [] (v4 (mm_i M 108 (upd (M.1 108) 74 0)) q o f (c5 g (2 ^ W) (fun j => red k (xs j)))) := by
    intro Y h0 h
    rw [← h0]
    exact h (2 ^ W) 0 (by omega) _ _ _ _
  have pe : ∀ (Y : Nat → R4 × Nat) (k' : Nat), (∀ j, j < 2 ^ W → Y j = red k' (gx kd t s c false (2 ^ W) xs j)) → (if kd = 3 then k + 1 else k) = k' → ∀ q o f, (fun r M' => r = (.inl none : am_R) ∧ ∃ q' o' f', M' = v4 (mm_i M 108 (upd (M.1 108) 74 0)) q' o' f' (c5 g (2 ^ W) (fun j => red (if kd = 3 then k + 1 else k) (gx kd t s c false (2 ^ W) xs j)))) (.inl none) (v4 (mm_i M 108 (upd (M.1 108) 74 0)) q o f (c5 g (2 ^ W) Y)) := by
    intro Y k' hY hk' q o f
    refine ⟨rfl, q, o, f, ?_⟩
    rw [hk', c5_e hY]
  rcases (by omega : kd = 0 ∨ kd = 1 ∨ kd = 2 ∨ kd = 3 ∨ kd = 4 ∨ kd = 5 ∨ kd = 6 ∨ kd = 7 ∨ kd = 8) with rfl | rfl | rfl | rfl | rfl | rfl | rfl | rfl | rfl
  · exact go (fun m => pm (gS0 t c) (2 ^ t) (fun _ b => b) (fun a _ => a) (fun j => red k (xs j)) m) pm_0 (rp_0 hX ho1 hap (pe _ k (fun j hj => pm_mp (F := red k) (f := fun _ b => b) (h := fun a _ => a) (f' := fun _ b => b) (h' := fun a _ => a) (fun _ _ => rfl) (fun _ _ => rfl) xs _ _) rfl))
  · exact go (fun m => pm (gS0 t c) (2 ^ t) (fun _ b => (t8n 6 b.1, b.2)) (fun a _ => (t8n 2 a.1, a.2)) (fun j => red k (xs j)) m) pm_0 (rp_1 hX ho1 hap (pe _ k (fun j hj => pm_mp (F := red k) (f := fun _ b => t8n 6 b) (h := fun a _ => t8n 2 a) (fun _ b => (red_t8n k b 6).symm) (fun a _ => (red_t8n k a 2).symm) xs _ _) rfl))
  · exact go (fun m => rotA (gS1 t c) (fun y : R4 × Nat => (t8n 4 y.1, y.2)) (fun j => red k (xs j)) m) (by funext j; unfold rotA; rw [if_neg (by omega)]) (rp_2 hX ho1 hap (pe _ k (fun j hj => rotA_mp xs _ _) rfl))
  · refine go (fun m => fun j => (pm (gS0 t c) (2 ^ t) (fun a b => (red (k + 1) (ra a.2 b.2), a.2)) (fun a b => (red (k + 1) (ra a.2 (ng b.2)), a.2)) (fun j => (red k (xs j), xs j)) m j).1) (by funext j; rw [pm_0]) (rp_3 hX ho1 hap (by omega) (fun i hi hS => ?_) (pe _ (k + 1) (fun j hj => rh_e htw hct hj) rfl))
    have hj := xq_lt hi htl
    have hnS := g0_n hct hS
    have b1 := hb i hi
    have b2 := hb _ hj
    have e1 : gx 3 t s c false (2 ^ W) xs i = ra (xs i) (xs (i ^^^ 2 ^ t)) := by
      show bh (fun i => i &&& c = c) (gS0 t c) (2 ^ t) xs (2 ^ W) i = _
      unfold bh pm
      rw [if_pos hS.1, if_pos ⟨hS, hi⟩]
    have e2 : gx 3 t s c false (2 ^ W) xs (i ^^^ 2 ^ t) = ra (xs i) (ng (xs (i ^^^ 2 ^ t))) := by
      show bh (fun i => i &&& c = c) (gS0 t c) (2 ^ t) xs (2 ^ W) (i ^^^ 2 ^ t) = _
      unfold bh pm
      rw [if_pos (show (i ^^^ 2 ^ t) &&& c = c by rw [xo_c hct]; exact hS.1), if_neg (fun q => hnS q.1), xx_c, if_pos ⟨hS, hi⟩]
    rw [e1] at b1
    rw [e2] at b2
    exact ⟨b1, b2⟩
  · exact go (fun m => rotA (gS1 t c) (fun y : R4 × Nat => (t8n 2 y.1, y.2)) (fun j => red k (xs j)) m) (by funext j; unfold rotA; rw [if_neg (by omega)]) (rp_4 hX ho1 hap (pe _ k (fun j hj => rotA_mp xs _ _) rfl))
  · exact go (fun m => rotA (gS1 t c) (fun y : R4 × Nat => (t8n 1 y.1, y.2)) (fun j => red k (xs j)) m) (by funext j; unfold rotA; rw [if_neg (by omega)]) (rp_5 hX ho1 hap (pe _ k (fun j hj => rotA_mp xs _ _) rfl))
  · exact go (fun m => rotA (gS1 t c) (fun y : R4 × Nat => (t8n 6 y.1, y.2)) (fun j => red k (xs j)) m) (by funext j; unfold rotA; rw [if_neg (by omega)]) (rp_6 hX ho1 hap (pe _ k (fun j hj => rotA_mp xs _ _) rfl))
  · exact go (fun m => rotA (gS1 t c) (fun y : R4 × Nat => (t8n 7 y.1, y.2)) (fun j => red k (xs j)) m) (by funext j; unfold rotA; rw [if_neg (by omega)]) (rp_7 hX ho1 hap (pe _ k (fun j hj => rotA_mp xs _ _) rfl))
  · exact go (fun m => pm (gSw t s c) (2 ^ t ^^^ 2 ^ s) (fun _ b => b) (fun a _ => a) (fun j => red k (xs j)) m) pm_0 (rp_8 hX ho1 hap (pe _ k (fun j hj => pm_mp (F := red k) (f := fun _ b => b) (h := fun a _ => a) (f' := fun _ b => b) (h' := fun a _ => a) (fun _ _ => rfl) (fun _ _ => rfl) xs _ _) rfl))
end RAQ
/-! the sum of the squares under a gate -/
theorem sI_D {W c : Nat} (D : Nat → Prop) [∀ i, Decidable (D i)] (F : Nat → Int) (hc : c < 2 ^ W) (hD : ∀ i, D (i ^^^ c) ↔ D i) : sI (fun k => if D k then F (k ^^^ c) else F k) (2 ^ W) = sI F (2 ^ W) := by
  have e1 : (fun k => if D k then F (k ^^^ c) else F k) = fun k => (fun j => if D j then F j else 0) (k ^^^ c) + (if D k then 0 else F k) := by
    funext k
    by_cases h : D k
    · simp only [if_pos h, if_pos ((hD k).mpr h)]
      omega
    · simp only [if_neg h, if_neg (fun q => h ((hD k).mp q))]
      omega
  have e2 : F = fun k => (fun j => if D j then F j else 0) k + (if D k then 0 else F k) := by
    funext k
    by_cases h : D k
    · simp only [if_pos h]
      omega
    · simp only [if_neg h]
      omega
  rw [e1, sI_add, sI_x W c (fun j => if D j then F j else 0) hc]
  conv => rhs; rw [e2, sI_add]
theorem pm_nrm {W c : Nat} {S : Nat → Prop} [∀ i, Decidable (S i)] {f h : R4 → R4 → R4} (hc : c < 2 ^ W) (hf : ∀ a b, nrm (f a b) = nrm b) (hh : ∀ a b, nrm (h a b) = nrm a) (xs : Nat → R4) : sI (fun i => nrm (pm S c f h xs (2 ^ W) i)) (2 ^ W) = sI (fun i => nrm (xs i)) (2 ^ W) := by
  rw [← sI_D (fun i => S i ∨ S (i ^^^ c)) (fun i => nrm (xs i)) hc (fun i => by rw [xx_c]; exact Or.comm)]
  refine sI_ext _ fun i hi => ?_
  have hi2 := xq_lt hi hc
  unfold pm
  by_cases h1 : S i
  · rw [if_pos ⟨h1, hi⟩, hf, if_pos (Or.inl h1)]
  · rw [if_neg (fun q => h1 q.1)]
    by_cases h2 : S (i ^^^ c)
    · rw [if_pos ⟨h2, hi2⟩, hh, if_pos (Or.inr h2)]
    · rw [if_neg (fun q => h2 q.1), if_neg (fun q => q.elim h1 h2)]
theorem nrm_par (a b : R4) : nrm (ra a b) + nrm (ra a (ng b)) = 2 * (nrm a + nrm b) := by
  obtain ⟨a1, a2, a3, a4⟩ := a
  obtain ⟨b1, b2, b3, b4⟩ := b
  simp only [nrm, ra, ng]
  grind
theorem bh_nrm {W t c : Nat} (ht : t < W) (hct : c.testBit t = false) (xs : Nat → R4) : sI (fun i => nrm (bh (fun i => i &&& c = c) (gS0 t c) (2 ^ t) xs (2 ^ W) i)) (2 ^ W) = 2 * sI (fun i => nrm (xs i)) (2 ^ W) := by
  have htl : 2 ^ t < 2 ^ W := Nat.pow_lt_pow_right (by decide) ht
  let T : Nat → Int := fun i => nrm (bh (fun i => i &&& c = c) (gS0 t c) (2 ^ t) xs (2 ^ W) i)
  let TA : Nat → Int := fun i => if i &&& c = c then T i else 0
  let NA : Nat → Int := fun i => if i &&& c = c then nrm (xs i) else 0
  let NB : Nat → Int := fun i => if i &&& c = c then 0 else nrm (xs i)
  have hxc : ∀ i, (i ^^^ 2 ^ t) &&& c = i &&& c := fun i => xo_c hct
  have hp : ∀ i, i < 2 ^ W → TA i + TA (i ^^^ 2 ^ t) = 2 * (NA i + NA (i ^^^ 2 ^ t)) := by
    intro i hi
    have hi2 := xq_lt hi htl
    by_cases hA : i &&& c = c
    · have hA2 : (i ^^^ 2 ^ t) &&& c = c := by rw [hxc]; exact hA
      show (if i &&& c = c then T i else 0) + (if (i ^^^ 2 ^ t) &&& c = c then T (i ^^^ 2 ^ t) else 0) = 2 * ((if i &&& c = c then nrm (xs i) else 0) + (if (i ^^^ 2 ^ t) &&& c = c then nrm (xs (i ^^^ 2 ^ t)) else 0))
      rw [if_pos hA, if_pos hA2, if_pos hA, if_pos hA2]
      show nrm (bh _ _ _ _ _ i) + nrm (bh _ _ _ _ _ (i ^^^ 2 ^ t)) = _
      unfold bh pm
      rw [if_pos hA, if_pos hA2]
      cases e : i.testBit t with
      | false =>
        have hS : gS0 t c i := ⟨hA, e⟩
        have hnS := g0_n hct hS
        rw [if_pos ⟨hS, hi⟩, if_neg (fun q => hnS q.1), xx_c, if_pos ⟨hS, hi⟩]
        exact nrm_par _ _
      | true =>
        have hS : gS0 t c (i ^^^ 2 ^ t) := (g0_x hct).mpr ⟨hA, e⟩
        have hnS : ¬ gS0 t c i := fun q => by
          have := q.2
          rw [e] at this
          exact absurd this (by decide)
        rw [if_neg (fun q => hnS q.1), if_pos ⟨hS, hi2⟩, if_pos ⟨hS, hi2⟩, xx_c]
        have := nrm_par (xs (i ^^^ 2 ^ t)) (xs i)
        dsimp only
        omega
    · have hA2 : ¬ (i ^^^ 2 ^ t) &&& c = c := by rw [hxc]; exact hA
      show (if i &&& c = c then T i else 0) + (if (i ^^^ 2 ^ t) &&& c = c then T (i ^^^ 2 ^ t) else 0) = 2 * ((if i &&& c = c then nrm (xs i) else 0) + (if (i ^^^ 2 ^ t) &&& c = c then nrm (xs (i ^^^ 2 ^ t)) else 0))
      rw [if_neg hA, if_neg hA2, if_neg hA, if_neg hA2]
      rfl
  have h1 : sI TA (2 ^ W) = 2 * sI NA (2 ^ W) := by
    have a1 := sI_ext (F := fun i => TA i + TA (i ^^^ 2 ^ t)) (G := fun i => 2 * (NA i + NA (i ^^^ 2 ^ t))) (2 ^ W) hp
    rw [sI_add, sI_x W (2 ^ t) TA htl, sI_2 (fun i => NA i + NA (i ^^^ 2 ^ t)), sI_add, sI_x W (2 ^ t) NA htl] at a1
    omega
  have h2 : sI T (2 ^ W) = sI TA (2 ^ W) + sI (fun i => 2 * NB i) (2 ^ W) := by
    rw [← sI_add]
    refine sI_ext _ fun i hi => ?_
    by_cases hA : i &&& c = c
    · show T i = (if i &&& c = c then T i else 0) + 2 * (if i &&& c = c then 0 else nrm (xs i))
      rw [if_pos hA, if_pos hA]
      omega
    · show T i = (if i &&& c = c then T i else 0) + 2 * (if i &&& c = c then 0 else nrm (xs i))
      rw [if_neg hA, if_neg hA]
      show nrm (bh _ _ _ _ _ i) = _
      unfold bh
      rw [if_neg hA, if_pos hi, nrm_rr]
      omega
  have h3 : sI (fun i => nrm (xs i)) (2 ^ W) = sI NA (2 ^ W) + sI NB (2 ^ W) := by
    rw [← sI_add]
    refine sI_ext _ fun i hi => ?_
    by_cases hA : i &&& c = c
    · show nrm (xs i) = (if i &&& c = c then nrm (xs i) else 0) + (if i &&& c = c then 0 else nrm (xs i))
      rw [if_pos hA, if_pos hA]
      omega
    · show nrm (xs i) = (if i &&& c = c then nrm (xs i) else 0) + (if i &&& c = c then 0 else nrm (xs i))
      rw [if_neg hA, if_neg hA]
      omega
  rw [sI_2] at h2
  show sI T (2 ^ W) = _
  omega
theorem rot_nrm {W e : Nat} {S : Nat → Prop} [∀ i, Decidable (S i)] (xs : Nat → R4) : sI (fun i => nrm (rotm S (t8n e) xs (2 ^ W) i)) (2 ^ W) = sI (fun i => nrm (xs i)) (2 ^ W) := by
  refine sI_ext _ fun i _ => ?_
  unfold rotm
  by_cases h : S i ∧ i < 2 ^ W
  · rw [if_pos h, nrm_t8n]
  · rw [if_neg h]
theorem gx_nrm {kd t s c W : Nat} (hap : apo kd t s c W) (mi : Bool) (xs : Nat → R4) : sI (fun i => nrm (gx kd t s c mi (2 ^ W) xs i)) (2 ^ W) = if kd = 3 then 2 * sI (fun i => nrm (xs i)) (2 ^ W) else sI (fun i => nrm (xs i)) (2 ^ W) := by
  obtain ⟨ht, hc, hct, h8⟩ := hap
  have htl : 2 ^ t < 2 ^ W := Nat.pow_lt_pow_right (by decide) ht
  by_cases k3 : kd = 3
  · rw [if_pos k3]
    unfold gx
    simp only [if_neg (show ¬ kd = 0 by omega), if_neg (show ¬ kd = 1 by omega), if_pos k3]
    exact bh_nrm ht hct xs
  · rw [if_neg k3]
    unfold gx
    by_cases k0 : kd = 0
    · simp only [if_pos k0]
      exact pm_nrm (S := gS0 t c) (f := fun _ b => b) (h := fun a _ => a) htl (fun _ _ => rfl) (fun _ _ => rfl) xs
    · simp only [if_neg k0]
      by_cases k1 : kd = 1
      · simp only [if_pos k1]
        exact pm_nrm (S := gS0 t c) (f := fun _ b => t8n (if mi = true then 2 else 6) b) (h := fun a _ => t8n (if mi = true then 6 else 2) a) htl (fun _ _ => nrm_t8n _ _) (fun _ _ => nrm_t8n _ _) xs
      · simp only [if_neg k1, if_neg k3]
        by_cases k8 : kd = 8
        · simp only [if_pos k8]
          obtain ⟨hs, _, _⟩ := h8 k8
          exact pm_nrm (S := gSw t s c) (f := fun _ b => b) (h := fun a _ => a) (Nat.xor_lt_two_pow htl (Nat.pow_lt_pow_right (by decide) hs)) (fun _ _ => rfl) (fun _ _ => rfl) xs
        · simp only [if_neg k8]
          exact rot_nrm xs
