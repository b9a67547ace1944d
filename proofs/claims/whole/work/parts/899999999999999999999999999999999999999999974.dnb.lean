/-! DENSITIES: gates keep them -/
section DNB
/-- the second part of a square -/
def nq (x : R4) : Int := x.1 * x.2.1 - x.1 * x.2.2.2 + x.2.1 * x.2.2.1 + x.2.2.1 * x.2.2.2
theorem mu_nq (x : R4) : mu x (cj x) = (nrm x, nq x, 0, - nq x) := by
  obtain ⟨a, b, c, d⟩ := x
  simp only [mu, cj, nrm, nq, Prod.mk.injEq]
  refine ⟨?_, ?_, ?_, ?_⟩ <;> grind
theorem nq_t8 (x : R4) : nq (t8 x) = nq x := by
  obtain ⟨a, b, c, d⟩ := x
  simp only [nq, t8]
  grind
theorem nq_t8n (x : R4) : ∀ n, nq (t8n n x) = nq x
  | 0 => rfl
  | n + 1 => by
    show nq (t8 (t8n n x)) = _
    rw [nq_t8, nq_t8n x n]
theorem nq_rr (x : R4) : nq (rr x) = 2 * nq x := by
  obtain ⟨a, b, c, d⟩ := x
  simp only [nq, rr]
  grind
theorem nq_par (a b : R4) : nq (ra a b) + nq (ra a (ng b)) = 2 * (nq a + nq b) := by
  obtain ⟨a1, a2, a3, a4⟩ := a
  obtain ⟨b1, b2, b3, b4⟩ := b
  simp only [nq, ra, ng]
  grind
theorem pm_nq {W c : Nat} {S : Nat → Prop} [∀ i, Decidable (S i)] {f h : R4 → R4 → R4} (hc : c < 2 ^ W) (hf : ∀ a b, nq (f a b) = nq b) (hh : ∀ a b, nq (h a b) = nq a) (xs : Nat → R4) : sI (fun i => nq (pm S c f h xs (2 ^ W) i)) (2 ^ W) = sI (fun i => nq (xs i)) (2 ^ W) := by
  rw [← sI_D (fun i => S i ∨ S (i ^^^ c)) (fun i => nq (xs i)) hc (fun i => by rw [xx_c]; exact Or.comm)]
  refine sI_ext _ fun i hi => ?_
  have hi2 := xq_lt hi hc
  unfold pm
  by_cases h1 : S i
  · rw [if_pos ⟨h1, hi⟩, hf, if_pos (Or.inl h1)]
  · rw [if_neg (fun q => h1 q.1)]
    by_cases h2 : S (i ^^^ c)
    · rw [if_pos ⟨h2, hi2⟩, hh, if_pos (Or.inr h2)]
    · rw [if_neg (fun q => h2 q.1), if_neg (fun q => q.elim h1 h2)]
theorem bh_nq {W t c : Nat} (ht : t < W) (hct : c.testBit t = false) (xs : Nat → R4) : sI (fun i => nq (bh (fun i => i &&& c = c) (gS0 t c) (2 ^ t) xs (2 ^ W) i)) (2 ^ W) = 2 * sI (fun i => nq (xs i)) (2 ^ W) := by
  have htl : 2 ^ t < 2 ^ W := Nat.pow_lt_pow_right (by decide) ht
  let T : Nat → Int := fun i => nq (bh (fun i => i &&& c = c) (gS0 t c) (2 ^ t) xs (2 ^ W) i)
  let TA : Nat → Int := fun i => if i &&& c = c then T i else 0
  let NA : Nat → Int := fun i => if i &&& c = c then nq (xs i) else 0
  let NB : Nat → Int := fun i => if i &&& c = c then 0 else nq (xs i)
  have hxc : ∀ i, (i ^^^ 2 ^ t) &&& c = i &&& c := fun i => xo_c hct
  have hp : ∀ i, i < 2 ^ W → TA i + TA (i ^^^ 2 ^ t) = 2 * (NA i + NA (i ^^^ 2 ^ t)) := by
    intro i hi
    have hi2 := xq_lt hi htl
    by_cases hA : i &&& c = c
    · have hA2 : (i ^^^ 2 ^ t) &&& c = c := by rw [hxc]; exact hA
      show (if i &&& c = c then T i else 0) + (if (i ^^^ 2 ^ t) &&& c = c then T (i ^^^ 2 ^ t) else 0) = 2 * ((if i &&& c = c then nq (xs i) else 0) + (if (i ^^^ 2 ^ t) &&& c = c then nq (xs (i ^^^ 2 ^ t)) else 0))
      rw [if_pos hA, if_pos hA2, if_pos hA, if_pos hA2]
      show nq (bh _ _ _ _ _ i) + nq (bh _ _ _ _ _ (i ^^^ 2 ^ t)) = _
      unfold bh pm
      rw [if_pos hA, if_pos hA2]
      cases e : i.testBit t with
      | false =>
        have hS : gS0 t c i := ⟨hA, e⟩
        have hnS := g0_n hct hS
        rw [if_pos ⟨hS, hi⟩, if_neg (fun q => hnS q.1), xx_c, if_pos ⟨hS, hi⟩]
        exact nq_par _ _
      | true =>
        have hS : gS0 t c (i ^^^ 2 ^ t) := (g0_x hct).mpr ⟨hA, e⟩
        have hnS : ¬ gS0 t c i := fun q => by
          have := q.2
          rw [e] at this
          exact absurd this (by decide)
        rw [if_neg (fun q => hnS q.1), if_pos ⟨hS, hi2⟩, if_pos ⟨hS, hi2⟩, xx_c]
        have := nq_par (xs (i ^^^ 2 ^ t)) (xs i)
        dsimp only
        omega
    · have hA2 : ¬ (i ^^^ 2 ^ t) &&& c = c := by rw [hxc]; exact hA
      show (if i &&& c = c then T i else 0) + (if (i ^^^ 2 ^ t) &&& c = c then T (i ^^^ 2 ^ t) else 0) = 2 * ((if i &&& c = c then nq (xs i) else 0) + (if (i ^^^ 2 ^ t) &&& c = c then nq (xs (i ^^^ 2 ^ t)) else 0))
      rw [if_neg hA, if_neg hA2, if_neg hA, if_neg hA2]
      rfl
  have h1 : sI TA (2 ^ W) = 2 * sI NA (2 ^ W) := by
    have a1 := sI_ext (F := fun i => TA i + TA (i ^^^ 2 ^ t)) (G := fun i => 2 * (NA i + NA (i ^^^ 2 ^ t))) (2 ^ W) hp
    rw [sI_add, sI_x W (2 ^ t) TA htl, sI_2 (fun i => NA i + NA (i ^^^ 2 ^ t)), sI_add, sI_x W (2 ^ t) NA htl] at a1
    omega
  have h2 : sI T (2 ^ W) = sI TA (2 ^ W) + sI (fun i => 2 * NB i) (2 ^ W) := by
    rw [← sI_add]
    refine sI_ext _ fun i hi => ?_
    by_cases hA : i &&& c = c
    · show T i = (if i &&& c = c then T i else 0) + 2 * (if i &&& c = c then 0 else nq (xs i))
      rw [if_pos hA, if_pos hA]
      omega
    · show T i = (if i &&& c = c then T i else 0) + 2 * (if i &&& c = c then 0 else nq (xs i))
      rw [if_neg hA, if_neg hA]
      show nq (bh _ _ _ _ _ i) = _
      unfold bh
      rw [if_neg hA, if_pos hi, nq_rr]
      omega
  have h3 : sI (fun i => nq (xs i)) (2 ^ W) = sI NA (2 ^ W) + sI NB (2 ^ W) := by
    rw [← sI_add]
    refine sI_ext _ fun i hi => ?_
    by_cases hA : i &&& c = c
    · show nq (xs i) = (if i &&& c = c then nq (xs i) else 0) + (if i &&& c = c then 0 else nq (xs i))
      rw [if_pos hA, if_pos hA]
      omega
    · show nq (xs i) = (if i &&& c = c then nq (xs i) else 0) + (if i &&& c = c then 0 else nq (xs i))
      rw [if_neg hA, if_neg hA]
      omega
  rw [sI_2] at h2
  show sI T (2 ^ W) = _
  omega
theorem rot_nq {W e : Nat} {S : Nat → Prop} [∀ i, Decidable (S i)] (xs : Nat → R4) : sI (fun i => nq (rotm S (t8n e) xs (2 ^ W) i)) (2 ^ W) = sI (fun i => nq (xs i)) (2 ^ W) := by
  refine sI_ext _ fun i _ => ?_
  unfold rotm
  by_cases h : S i ∧ i < 2 ^ W
  · rw [if_pos h, nq_t8n]
  · rw [if_neg h]
theorem gx_nq {kd t s c W : Nat} (hap : apo kd t s c W) (mi : Bool) (xs : Nat → R4) : sI (fun i => nq (gx kd t s c mi (2 ^ W) xs i)) (2 ^ W) = if kd = 3 then 2 * sI (fun i => nq (xs i)) (2 ^ W) else sI (fun i => nq (xs i)) (2 ^ W) := by
  obtain ⟨ht, hc, hct, h8⟩ := hap
  have htl : 2 ^ t < 2 ^ W := Nat.pow_lt_pow_right (by decide) ht
  by_cases k3 : kd = 3
  · rw [if_pos k3]
    unfold gx
    simp only [if_neg (show ¬ kd = 0 by omega), if_neg (show ¬ kd = 1 by omega), if_pos k3]
    exact bh_nq ht hct xs
  · rw [if_neg k3]
    unfold gx
    by_cases k0 : kd = 0
    · simp only [if_pos k0]
      exact pm_nq (S := gS0 t c) (f := fun _ b => b) (h := fun a _ => a) htl (fun _ _ => rfl) (fun _ _ => rfl) xs
    · simp only [if_neg k0]
      by_cases k1 : kd = 1
      · simp only [if_pos k1]
        exact pm_nq (S := gS0 t c) (f := fun _ b => t8n (if mi = true then 2 else 6) b) (h := fun a _ => t8n (if mi = true then 6 else 2) a) htl (fun _ _ => nq_t8n _ _) (fun _ _ => nq_t8n _ _) xs
      · simp only [if_neg k1, if_neg k3]
        by_cases k8 : kd = 8
        · simp only [if_pos k8]
          obtain ⟨hs, _, _⟩ := h8 k8
          exact pm_nq (S := gSw t s c) (f := fun _ b => b) (h := fun a _ => a) (Nat.xor_lt_two_pow htl (Nat.pow_lt_pow_right (by decide) hs)) (fun _ _ => rfl) (fun _ _ => rfl) xs
        · simp only [if_neg k8]
          exact rot_nq xs
end DNB
section DNC
variable {k t s c m i : Nat} {mi : Bool} {v u : Nat → R4} {z : R4}
theorem pm_mu {S : Nat → Prop} [∀ i, Decidable (S i)] {e : Nat} {f g : R4 → R4 → R4} (hf : ∀ a b, f (mu a z) (mu b z) = mu (f a b) z) (hg : ∀ a b, g (mu a z) (mu b z) = mu (g a b) z) : pm S e f g (fun b => mu (v b) z) m i = mu (pm S e f g v m i) z := by
  unfold pm
  by_cases c1 : S i ∧ i < m
  · rw [if_pos c1, if_pos c1]
    exact hf _ _
  · rw [if_neg c1, if_neg c1]
    by_cases c2 : S (i ^^^ e) ∧ i ^^^ e < m
    · rw [if_pos c2, if_pos c2]
      exact hg _ _
    · rw [if_neg c2, if_neg c2]
theorem pm_ra {S : Nat → Prop} [∀ i, Decidable (S i)] {e : Nat} {f g : R4 → R4 → R4} (hf : ∀ a b a' b', f (ra a a') (ra b b') = ra (f a b) (f a' b')) (hg : ∀ a b a' b', g (ra a a') (ra b b') = ra (g a b) (g a' b')) : pm S e f g (fun b => ra (v b) (u b)) m i = ra (pm S e f g v m i) (pm S e f g u m i) := by
  unfold pm
  by_cases c1 : S i ∧ i < m
  · rw [if_pos c1, if_pos c1, if_pos c1]
    exact hf _ _ _ _
  · rw [if_neg c1, if_neg c1, if_neg c1]
    by_cases c2 : S (i ^^^ e) ∧ i ^^^ e < m
    · rw [if_pos c2, if_pos c2, if_pos c2]
      exact hg _ _ _ _
    · rw [if_neg c2, if_neg c2, if_neg c2]
/-- a gate, and what is multiplied by one number -/
theorem gx_mu : gx k t s c mi m (fun b => mu (v b) z) i = mu (gx k t s c mi m v i) z := by
  unfold gx
  by_cases k0 : k = 0
  · rw [if_pos k0, if_pos k0]
    exact pm_mu (fun _ _ => rfl) (fun _ _ => rfl)
  rw [if_neg k0, if_neg k0]
  by_cases k1 : k = 1
  · rw [if_pos k1, if_pos k1]
    exact pm_mu (fun _ _ => (mu_t8n _ _ _).symm) (fun _ _ => (mu_t8n _ _ _).symm)
  rw [if_neg k1, if_neg k1]
  by_cases k3 : k = 3
  · rw [if_pos k3, if_pos k3]
    unfold bh
    by_cases a : i &&& c = c
    · rw [if_pos a, if_pos a]
      exact pm_mu (fun _ _ => (mu_ra1 _ _ _).symm) (fun _ _ => by rw [mu_ra1, mu_ng1])
    · rw [if_neg a, if_neg a]
      by_cases b : i < m
      · rw [if_pos b, if_pos b]
        exact (mu_rr _ _).symm
      · rw [if_neg b, if_neg b]
  rw [if_neg k3, if_neg k3]
  by_cases k8 : k = 8
  · rw [if_pos k8, if_pos k8]
    exact pm_mu (fun _ _ => rfl) (fun _ _ => rfl)
  rw [if_neg k8, if_neg k8]
  unfold rotm
  by_cases a : gS1 t c i ∧ i < m
  · rw [if_pos a, if_pos a]
    exact (mu_t8n _ _ _).symm
  · rw [if_neg a, if_neg a]
/-- a gate, and sums -/
theorem gx_ra : gx k t s c mi m (fun b => ra (v b) (u b)) i = ra (gx k t s c mi m v i) (gx k t s c mi m u i) := by
  unfold gx
  by_cases k0 : k = 0
  · rw [if_pos k0, if_pos k0, if_pos k0]
    exact pm_ra (fun _ _ _ _ => rfl) (fun _ _ _ _ => rfl)
  rw [if_neg k0, if_neg k0, if_neg k0]
  by_cases k1 : k = 1
  · rw [if_pos k1, if_pos k1, if_pos k1]
    exact pm_ra (fun _ _ _ _ => t8n_ra _ _ _) (fun _ _ _ _ => t8n_ra _ _ _)
  rw [if_neg k1, if_neg k1, if_neg k1]
  by_cases k3 : k = 3
  · rw [if_pos k3, if_pos k3, if_pos k3]
    unfold bh
    by_cases a : i &&& c = c
    · rw [if_pos a, if_pos a, if_pos a]
      exact pm_ra (fun _ _ _ _ => ra_x4 _ _ _ _) (fun _ _ _ _ => by rw [ng_ra, ra_x4])
    · rw [if_neg a, if_neg a, if_neg a]
      by_cases b : i < m
      · rw [if_pos b, if_pos b, if_pos b]
        exact rr_ra _ _
      · rw [if_neg b, if_neg b, if_neg b]
  rw [if_neg k3, if_neg k3, if_neg k3]
  by_cases k8 : k = 8
  · rw [if_pos k8, if_pos k8, if_pos k8]
    exact pm_ra (fun _ _ _ _ => rfl) (fun _ _ _ _ => rfl)
  rw [if_neg k8, if_neg k8, if_neg k8]
  unfold rotm
  by_cases a : gS1 t c i ∧ i < m
  · rw [if_pos a, if_pos a, if_pos a]
    exact t8n_ra _ _ _
  · rw [if_neg a, if_neg a, if_neg a]
theorem gx_00 : gx k t s c mi m (fun _ => (0, 0, 0, 0)) i = (0, 0, 0, 0) := by
  have h := gx_mu (k := k) (t := t) (s := s) (c := c) (m := m) (i := i) (mi := mi) (v := fun _ => (0, 0, 0, 0)) (z := (0, 0, 0, 0))
  rw [mu_0] at h
  exact h.trans (mu_0 _)
theorem rn_mu (e : Nat) (x : R4) : rn e x = mu x (rn e (1, 0, 0, 0)) := by rw [mu_n2, mu_c, mu_1]
theorem mu_sc (x y : R4) (a : Int) : mu x (scl a y) = scl a (mu x y) := by
  obtain ⟨a1, a2, a3, a4⟩ := x
  obtain ⟨b1, b2, b3, b4⟩ := y
  simp only [mu, scl, Prod.mk.injEq]
  refine ⟨?_, ?_, ?_, ?_⟩ <;> grind
theorem cj_sc (x : R4) (a : Int) : cj (scl a x) = scl a (cj x) := by
  simp only [cj, scl, Int.neg_mul]
end DNC
section DND
variable {W : Nat} {x : bk_X} {xs : Nat → R4}
/-- a gate on a STATE -/
def gV (W : Nat) (x : bk_X) (v : Nat → R4) : Nat → R4 := gx x.1 x.2.1 x.2.2.1 x.2.2.2.1 false (2 ^ W) v
/-- a gate on rows and columns -/
def gM (W : Nat) (x : bk_X) (X : Nat → Nat → R4) (i j : Nat) : R4 := cj (gV W x (fun a => cj (gV W x (fun b => X b a) i)) j)
theorem gV_ex {v u : Nat → R4} (ho : ogd W x) (h : ∀ a, a < 2 ^ W → v a = u a) {i : Nat} (hi : i < 2 ^ W) : gV W x v i = gV W x u i := by
  have tw : 2 ^ x.2.1 < 2 ^ W := Nat.pow_lt_pow_right (by decide) ho.1.2.1
  refine gx_ex (fun q hq => Nat.xor_lt_two_pow hq tw) (fun z q hq => ?_) h hi
  exact Nat.xor_lt_two_pow hq (Nat.xor_lt_two_pow tw (Nat.pow_lt_pow_right (by decide) (ho.2.2 z).1))
theorem gM_ex {X Y : Nat → Nat → R4} (ho : ogd W x) (h : ∀ a b, a < 2 ^ W → b < 2 ^ W → X a b = Y a b) {i j : Nat} (hi : i < 2 ^ W) (hj : j < 2 ^ W) : gM W x X i j = gM W x Y i j := by
  unfold gM
  rw [gV_ex ho (fun a ha => by rw [gV_ex ho (fun b hb => h b a hb ha) hi]) hj]
theorem gM_rn {X : Nat → Nat → R4} {e i j : Nat} : rn e (gM W x X i j) = gM W x (fun a b => rn e (X a b)) i j := by
  unfold gM
  rw [← cj_rn, rn_mu e (gV _ _ _ j)]
  unfold gV
  rw [← gx_mu]
  congr 2
  funext a
  rw [← rn_mu, ← cj_rn, rn_mu e (gx _ _ _ _ _ _ _ i), ← gx_mu]
  congr 2
  funext b
  rw [← rn_mu]
theorem gM_dn (i j : Nat) : ∀ l : List (Nat × (Nat → R4)), gM W x (dnL l) i j = dnL (l.map fun a => (a.1, gV W x a.2)) i j
  | [] => by
    show gM W x (fun _ _ => (0, 0, 0, 0)) i j = (0, 0, 0, 0)
    unfold gM gV
    rw [show (fun a => cj (gx x.1 x.2.1 x.2.2.1 x.2.2.2.1 false (2 ^ W) (fun b => (0, 0, 0, 0)) i) : Nat → R4) = fun _ => (0, 0, 0, 0) from funext fun a => by rw [gx_00]; rfl, gx_00]
    rfl
  | a :: l => by
    have ih := gM_dn i j l
    show gM W x (fun b d => ra (scl (a.1 : Int) (mu (a.2 b) (cj (a.2 d)))) (dnL l b d)) i j = ra (scl (a.1 : Int) (mu (gV W x a.2 i) (cj (gV W x a.2 j)))) (dnL (l.map fun a => (a.1, gV W x a.2)) i j)
    rw [← ih]
    unfold gM gV
    have e1 : ∀ d, gx x.1 x.2.1 x.2.2.1 x.2.2.2.1 false (2 ^ W) (fun b => ra (scl (a.1 : Int) (mu (a.2 b) (cj (a.2 d)))) (dnL l b d)) i = ra (mu (gx x.1 x.2.1 x.2.2.1 x.2.2.2.1 false (2 ^ W) a.2 i) (scl (a.1 : Int) (cj (a.2 d)))) (gx x.1 x.2.1 x.2.2.1 x.2.2.2.1 false (2 ^ W) (fun b => dnL l b d) i) := fun d => by
      rw [gx_ra, ← gx_mu]
      congr 3
      funext b
      rw [mu_sc]
    rw [show (fun d => cj (gx x.1 x.2.1 x.2.2.1 x.2.2.2.1 false (2 ^ W) (fun b => ra (scl (a.1 : Int) (mu (a.2 b) (cj (a.2 d)))) (dnL l b d)) i)) = fun d => ra (mu (a.2 d) (scl (a.1 : Int) (cj (gx x.1 x.2.1 x.2.2.1 x.2.2.2.1 false (2 ^ W) a.2 i)))) (cj (gx x.1 x.2.1 x.2.2.1 x.2.2.2.1 false (2 ^ W) (fun b => dnL l b d) i)) from funext fun d => by
      rw [e1 d, cj_ra, mu_cj, cj_sc, cj_cj, mu_sc, mu_sc, mu_c (a.2 d)]]
    rw [gx_ra, gx_mu, cj_ra, mu_cj, cj_sc, cj_cj, mu_sc, mu_c (cj _)]
theorem mxG_M {i j : Nat} (hW : W ≤ 3) (ho : ogd W x) (h8 : x.1 ≤ 8) (hi : i < 2 ^ W) (hj : j < 2 ^ W) : mxG W x xs (i + 2 ^ W * j) = gM W x (fun a b => xs (a + 2 ^ W * b)) i j := mx_eq hW ho h8 hi hj
/-- the squares of a STATE -/
theorem vv_e (v : Nat → R4) (N : Nat) : sR (fun i => mu (v i) (cj (v i))) N = (sI (fun i => nrm (v i)) N, sI (fun i => nq (v i)) N, 0, - sI (fun i => nq (v i)) N) := by
  rw [sR_ext (G := fun i => (nrm (v i), nq (v i), 0, - nq (v i))) N (fun i _ => mu_nq _), sR_c]
  dsimp only
  rw [sI_neg]
  have z : ∀ n, sI (fun _ => 0) n = 0 := fun n => by
    induction n with
    | zero => rfl
    | succ n ih =>
      show sI (fun _ => 0) n + 0 = 0
      rw [ih]
      rfl
  rw [z]
theorem gV_v (ho : ogd W x) (v : Nat → R4) : sR (fun i => mu (gV W x v i) (cj (gV W x v i))) (2 ^ W) = if x.1 = 3 then rn 2 (sR (fun i => mu (v i) (cj (v i))) (2 ^ W)) else sR (fun i => mu (v i) (cj (v i))) (2 ^ W) := by
  have a := gx_nrm (ogd_a ho) false v
  have b := gx_nq (ogd_a ho) false v
  rw [vv_e, vv_e]
  unfold gV
  rw [a, b]
  by_cases c : x.1 = 3
  · rw [if_pos c, if_pos c, if_pos c, rn_2]
    simp only [ra, Prod.mk.injEq]
    refine ⟨?_, ?_, ?_, ?_⟩ <;> omega
  · rw [if_neg c, if_neg c, if_neg c]
theorem rn_sc2 (e : Nat) (a : Int) (y : R4) : scl a (rn e y) = rn e (scl a y) := (rn_scl a y e).symm
theorem gV_T (ho : ogd W x) : ∀ l : List (Nat × (Nat → R4)), dnT (l.map fun a => (a.1, gV W x a.2)) (2 ^ W) = if x.1 = 3 then rn 2 (dnT l (2 ^ W)) else dnT l (2 ^ W)
  | [] => by
    have e : dnT [] (2 ^ W) = (0, 0, 0, 0) := sR_00 _
    show dnT [] (2 ^ W) = _
    rw [e]
    split
    · exact (rn_0 2).symm
    · rfl
  | a :: l => by
    have ih := gV_T ho l
    show dnT ((a.1, gV W x a.2) :: (l.map fun a => (a.1, gV W x a.2))) (2 ^ W) = _
    rw [dnT_c, dnT_c, ih, gV_v ho]
    by_cases c : x.1 = 3
    · rw [if_pos c, if_pos c, if_pos c, rn_sc2, ra_rn]
    · rw [if_neg c, if_neg c, if_neg c]
/-- a DENSITY out of a DENSITY -/
theorem lgD_mk {w k q e : Nat} {xs ys : Nat → R4} {l l' : List (Nat × (Nat → R4))} (h1 : ∀ i j, i < 2 ^ w → j < 2 ^ w → rn e (xs (i + 2 ^ w * j)) = dnL l i j) (h2 : sR (fun i => xs (i + 2 ^ w * i)) (2 ^ w) = rn k (1, 0, 0, 0)) (g1 : ∀ i j, i < 2 ^ w → j < 2 ^ w → rn e (ys (i + 2 ^ w * j)) = dnL l' i j) (g2 : dnT l' (2 ^ w) = rn q (dnT l (2 ^ w))) : lgD w (k + q) ys := by
  refine ⟨⟨e, l', g1⟩, rn_i e ?_⟩
  rw [← sR_rn, sR_ext (2 ^ w) (fun i hi => g1 i i hi hi)]
  show dnT l' (2 ^ w) = _
  rw [g2]
  unfold dnT
  rw [sR_ext (2 ^ w) (fun i hi => (h1 i i hi hi).symm), sR_rn, h2, rn_cm, ← rn_a, Nat.add_comm k q, ← rn_a, ← rn_a, Nat.add_assoc]
/-- gates keep DENSITIES -/
theorem lg_G {K : Nat} (hW : W ≤ 3) (ho : ogd W x) (h8 : x.1 ≤ 8) (h : lgD W K xs) : lgD W (if x.1 = 3 then K + 2 else K) (mxG W x xs) := by
  obtain ⟨⟨e, l, h1⟩, h2⟩ := h
  have g1 : ∀ i j, i < 2 ^ W → j < 2 ^ W → rn e (mxG W x xs (i + 2 ^ W * j)) = dnL (l.map fun a => (a.1, gV W x a.2)) i j := fun i j hi hj => by
    rw [mxG_M hW ho h8 hi hj, gM_rn, gM_ex ho (Y := dnL l) (fun a b ha hb => h1 a b ha hb) hi hj, gM_dn]
  have t := gV_T ho l
  by_cases c : x.1 = 3
  · rw [if_pos c] at t ⊢
    exact lgD_mk h1 h2 g1 t
  · rw [if_neg c] at t ⊢
    exact lgD_mk (q := 0) h1 h2 g1 t
end DND
