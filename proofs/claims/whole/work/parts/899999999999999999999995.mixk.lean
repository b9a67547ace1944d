/-! mix, the reference: adjoint, all cells -/
section MXK
variable {d : Nat} {M : mm_M}
/-- the numbers when (i, j) comes next -/
noncomputable def ajR (Y : Nat → Nat → R4) (i j a b : Nat) : R4 := @ite R4 (dnA i j a b) (Classical.propDecidable _) (cj (Y b a)) (Y a b)
theorem ajR_t {Y : Nat → Nat → R4} {i j a b : Nat} (h : dnA i j a b) : ajR Y i j a b = cj (Y b a) := @if_pos _ (Classical.propDecidable _) h R4 _ _
theorem ajR_f {Y : Nat → Nat → R4} {i j a b : Nat} (h : ¬ dnA i j a b) : ajR Y i j a b = Y a b := @if_neg _ (Classical.propDecidable _) h R4 _ _
theorem ajR_e {Y : Nat → Nat → R4} {i j i' j' a b : Nat} (h : dnA i j a b ↔ dnA i' j' a b) : ajR Y i j a b = ajR Y i' j' a b := by
  by_cases c : dnA i j a b
  · rw [ajR_t c, ajR_t (h.mp c)]
  · rw [ajR_f c, ajR_f fun z => c (h.mpr z)]
def ajS (N : mm_M) (W K i j : Nat) (Y : Nat → Nat → R4) : Prop := ∀ a b, a < 2 ^ W → b < 2 ^ W → at5 (N.2 162) (5 * (8 * a + b)) (red K (ajR Y i j a b)).1 (red K (ajR Y i j a b)).2
set_option maxRecDepth 100000 in
theorem aj_j {i W K : Nat} {Y : Nat → Nat → R4} {Pp : am_Q} {X : am_X} (hX : am_K (d + 1) false nm_X12_adjoin Pp X) (hW : W ≤ 3) (hi : i < 2 ^ W) (hE : ∀ N l2, mgF M N → N.2 150 = M.2 150 → ajS N W K (i + 1) 0 Y → X 103 [some (aR 108), some (aI (nI i)), l2] [] N) : ∀ m j N, j + m = i + 1 → mgF M N → N.2 150 = M.2 150 → ajS N W K i j Y → X 14 [some (aR 108), some (aI (nI i)), some (aI (nI j))] [] N := by
  have w8 : 2 ^ W ≤ 8 := (Nat.pow_le_pow_right (n := 2) (by decide) hW : 2 ^ W ≤ 2 ^ 3)
  intro m
  induction m with
  | zero =>
    intro j N hj hf h5 h
    have hj : j = i + 1 := by omega
    subst hj
    refine am_run hX 3 _ _ _ _ ?_
    conv => whnf
    refine ⟨fun _ => hE N _ hf h5 fun a b ha hb => ?_, fun c => absurd (nI_lt (by omega) (by omega)) c⟩
    rw [ajR_e (show dnA (i + 1) 0 a b ↔ dnA i (i + 1) a b by unfold dnA; omega)]
    exact h a b ha hb
  | succ m ih =>
    intro j N hj hf h5 h
    have n1 : ¬ dnA i j i j := by unfold dnA; omega
    have n2 : ¬ dnA i j j i := by unfold dnA; omega
    have y1 := h i j hi (by omega)
    have y2 := h j i (by omega) hi
    rw [ajR_f n1] at y1
    rw [ajR_f n2] at y2
    refine am_run hX 3 _ _ _ _ ?_
    conv => whnf
    refine ⟨fun c => absurd c (nI_nlt (by omega) (by omega)), fun _ => ?_⟩
    refine aj_1 (d := d) (M := N) (K := K) hX (by omega) (by omega) y1 y2 (fun e => by rw [e]) fun N1 f1 g5 z1 z2 z3 => ?_
    refine am_run hX 2 _ _ _ _ ?_
    conv => whnf
    rw [nI_1]
    refine ih (j + 1) N1 (by omega) (mgF_t hf f1) (g5.trans h5) fun a b ha hb => ?_
    by_cases c1 : a = i ∧ b = j
    · rw [c1.1, c1.2, ajR_t (show dnA i (j + 1) i j by unfold dnA; omega)]
      exact z1
    · by_cases c2 : a = j ∧ b = i
      · rw [c2.1, c2.2, ajR_t (show dnA i (j + 1) j i by unfold dnA; omega)]
        exact z2
      · rw [ajR_e (show dnA i (j + 1) a b ↔ dnA i j a b by unfold dnA; omega)]
        exact at5_e (fun q q1 q2 => z3 q (by omega) (by omega)) (h a b ha hb)
set_option maxRecDepth 100000 in
theorem aj_i {W K : Nat} {Y : Nat → Nat → R4} {Pp : am_Q} {X : am_X} (hX : am_K (d + 1) false nm_X12_adjoin Pp X) (hW : W ≤ 3) (e88 : M.1 108 88 = nI W) (hE : ∀ N, mgF M N → N.2 150 = M.2 150 → ajS N W K (2 ^ W) 0 Y → Pp (.inl none) N) : ∀ m i N l2, i + m = 2 ^ W → mgF M N → N.2 150 = M.2 150 → ajS N W K i 0 Y → X 2 [some (aR 108), some (aI (nI i)), l2] [] N := by
  have w8 : 2 ^ W ≤ 8 := (Nat.pow_le_pow_right (n := 2) (by decide) hW : 2 ^ W ≤ 2 ^ 3)
  intro m
  induction m with
  | zero =>
    intro i N l2 hi hf h5 h
    have hi : i = 2 ^ W := by omega
    subst hi
    refine am_run hX 6 _ _ _ _ ?_
    conv => whnf
    rw [hf.2.1 88 (by decide), e88, sh2 W (by omega)]
    refine ⟨fun _ => ?_, fun c => absurd (nI_le (by omega) (by omega)) c⟩
    refine am_run hX 1 _ _ _ _ ?_
    conv => whnf
    exact ⟨trivial, hE N hf h5 h⟩
  | succ m ih =>
    intro i N l2 hi hf h5 h
    refine am_run hX 6 _ _ _ _ ?_
    conv => whnf
    rw [hf.2.1 88 (by decide), e88, sh2 W (by omega)]
    refine ⟨fun c => absurd c (nI_ge (by omega) (by omega)), fun _ => ?_⟩
    refine am_run hX 2 _ _ _ _ ?_
    conv => whnf
    refine aj_j (d := d) (M := M) hX hW (by omega) (fun N1 l2 f1 g5 h1 => ?_) (i + 1) 0 N (by omega) hf h5 h
    refine am_run hX 2 _ _ _ _ ?_
    conv => whnf
    rw [nI_1]
    exact ih (i + 1) N1 _ (by omega) f1 g5 h1
set_option maxRecDepth 100000 in
theorem ct_adj {W K : Nat} {Y : Nat → Nat → R4} (hW : W ≤ 3) (e88 : M.1 108 88 = nI W) (hY : ∀ i b, i < 2 ^ W → b < 2 ^ W → at5 (M.2 162) (5 * (8 * i + b)) (red K (Y i b)).1 (red K (Y i b)).2) : am_M (d + 2) false nm_X12_adjoin [aR 108] M (fun r N => r = .inl none ∧ mgF M N ∧ N.2 150 = M.2 150 ∧ ∀ i b, i < 2 ^ W → b < 2 ^ W → at5 (N.2 162) (5 * (8 * i + b)) (red K (cj (Y b i))).1 (red K (cj (Y b i))).2) := by
  refine ⟨rfl, rfl, rfl, fun X hX => am_run hX 2 _ _ _ _ ?_⟩
  conv => whnf
  refine aj_i (d := d) (M := M) (Y := Y) (K := K) hX hW e88 (fun N f g h => ⟨rfl, f, g, fun i b hi hb => ?_⟩) (2 ^ W) 0 M _ (by omega) (mgF_r M) rfl fun a b ha hb => ?_
  · have := h i b hi hb
    rw [ajR_t (show dnA (2 ^ W) 0 i b by unfold dnA; omega)] at this
    exact this
  · rw [ajR_f (show ¬ dnA 0 0 a b by unfold dnA; omega)]
    exact hY a b ha hb
end MXK
/-! a gate on a part of the places, and mirrored -/
section GXS
theorem pm_1 {α : Type} {S : Nat → Prop} [∀ i, Decidable (S i)] {e m k : Nat} {f h : α → α → α} {ys : Nat → α} (c : S k ∧ k < m) : pm S e f h ys m k = f (ys k) (ys (k ^^^ e)) := by
  unfold pm
  rw [if_pos c]
theorem pm_2 {α : Type} {S : Nat → Prop} [∀ i, Decidable (S i)] {e m k : Nat} {f h : α → α → α} {ys : Nat → α} (c : ¬ (S k ∧ k < m)) (c2 : S (k ^^^ e) ∧ k ^^^ e < m) : pm S e f h ys m k = h (ys (k ^^^ e)) (ys k) := by
  unfold pm
  rw [if_neg c, if_pos c2]
theorem pm_3 {α : Type} {S : Nat → Prop} [∀ i, Decidable (S i)] {e m k : Nat} {f h : α → α → α} {ys : Nat → α} (c : ¬ (S k ∧ k < m)) (c2 : ¬ (S (k ^^^ e) ∧ k ^^^ e < m)) : pm S e f h ys m k = ys k := by
  unfold pm
  rw [if_neg c, if_neg c2]
theorem pm_sl {α : Type} {S S' : Nat → Prop} [∀ i, Decidable (S i)] [∀ i, Decidable (S' i)] {e e' m L : Nat} {f h : α → α → α} {ys : Nat → α} {ix : Nat → Nat} (hS : ∀ k, k < m → (S' (ix k) ↔ S k)) (hx : ∀ k, k < m → ix k ^^^ e' = ix (k ^^^ e) ∧ k ^^^ e < m) (hl : ∀ k, k < m → ix k < L) {k : Nat} (hk : k < m) : pm S' e' f h ys L (ix k) = pm S e f h (fun a => ys (ix a)) m k := by
  obtain ⟨x1, x2⟩ := hx k hk
  by_cases c : S k
  · rw [pm_1 (S := S') ⟨(hS k hk).mpr c, hl k hk⟩, pm_1 (S := S) ⟨c, hk⟩, x1]
  · have n1 : ¬ (S' (ix k) ∧ ix k < L) := fun z => c ((hS k hk).mp z.1)
    have n2 : ¬ (S k ∧ k < m) := fun z => c z.1
    by_cases c2 : S (k ^^^ e)
    · rw [pm_2 (S := S') n1 (by rw [x1]; exact ⟨(hS _ x2).mpr c2, hl _ x2⟩), pm_2 (S := S) n2 ⟨c2, x2⟩, x1]
    · rw [pm_3 (S := S') n1 (by rw [x1]; exact fun z => c2 ((hS _ x2).mp z.1)), pm_3 (S := S) n2 fun z => c2 z.1]
theorem bh_sl {A A' S S' : Nat → Prop} [∀ i, Decidable (A i)] [∀ i, Decidable (A' i)] [∀ i, Decidable (S i)] [∀ i, Decidable (S' i)] {e e' m L : Nat} {ys : Nat → R4} {ix : Nat → Nat} (hA : ∀ k, k < m → (A' (ix k) ↔ A k)) (hS : ∀ k, k < m → (S' (ix k) ↔ S k)) (hx : ∀ k, k < m → ix k ^^^ e' = ix (k ^^^ e) ∧ k ^^^ e < m) (hl : ∀ k, k < m → ix k < L) {k : Nat} (hk : k < m) : bh A' S' e' ys L (ix k) = bh A S e (fun a => ys (ix a)) m k := by
  unfold bh
  by_cases c : A k
  · rw [if_pos ((hA k hk).mpr c), if_pos c]
    exact pm_sl hS hx hl hk
  · rw [if_neg (fun z => c ((hA k hk).mp z)), if_neg c, if_pos (hl k hk), if_pos hk]
theorem ro_sl {S S' : Nat → Prop} [∀ i, Decidable (S i)] [∀ i, Decidable (S' i)] {m L : Nat} {F : R4 → R4} {ys : Nat → R4} {ix : Nat → Nat} (hS : ∀ k, k < m → (S' (ix k) ↔ S k)) (hl : ∀ k, k < m → ix k < L) {k : Nat} (hk : k < m) : rotm S' F ys L (ix k) = rotm S F (fun a => ys (ix a)) m k := by
  unfold rotm
  by_cases c : S k
  · rw [if_pos ⟨(hS k hk).mpr c, hl k hk⟩, if_pos ⟨c, hk⟩]
  · rw [if_neg (fun z => c ((hS k hk).mp z.1)), if_neg (fun z => c z.1)]
theorem gx_sl {kd t s c t' s' c' m L : Nat} {mi : Bool} {ys : Nat → R4} {ix : Nat → Nat} (hA : ∀ k, k < m → (ix k &&& c' = c' ↔ k &&& c = c)) (ht : ∀ k, k < m → (ix k).testBit t' = k.testBit t) (hs : kd = 8 → ∀ k, k < m → (ix k).testBit s' = k.testBit s) (hx : ∀ k, k < m → ix k ^^^ 2 ^ t' = ix (k ^^^ 2 ^ t) ∧ k ^^^ 2 ^ t < m) (hy : kd = 8 → ∀ k, k < m → ix k ^^^ (2 ^ t' ^^^ 2 ^ s') = ix (k ^^^ (2 ^ t ^^^ 2 ^ s)) ∧ k ^^^ (2 ^ t ^^^ 2 ^ s) < m) (hl : ∀ k, k < m → ix k < L) {k : Nat} (hk : k < m) : gx kd t' s' c' mi L ys (ix k) = gx kd t s c mi m (fun a => ys (ix a)) k := by
  have S0 : ∀ k, k < m → (gS0 t' c' (ix k) ↔ gS0 t c k) := fun k hk => by
    unfold gS0
    rw [hA k hk, ht k hk]
  have S1 : ∀ k, k < m → (gS1 t' c' (ix k) ↔ gS1 t c k) := fun k hk => by
    unfold gS1
    rw [hA k hk, ht k hk]
  unfold gx
  by_cases k0 : kd = 0
  · rw [if_pos k0, if_pos k0]
    exact pm_sl S0 hx hl hk
  rw [if_neg k0, if_neg k0]
  by_cases k1 : kd = 1
  · rw [if_pos k1, if_pos k1]
    exact pm_sl S0 hx hl hk
  rw [if_neg k1, if_neg k1]
  by_cases k3 : kd = 3
  · rw [if_pos k3, if_pos k3]
    exact bh_sl hA S0 hx hl hk
  rw [if_neg k3, if_neg k3]
  by_cases k8 : kd = 8
  · rw [if_pos k8, if_pos k8]
    refine pm_sl (fun k hk => ?_) (hy k8) hl hk
    unfold gSw
    rw [hA k hk, ht k hk, hs k8 k hk]
  rw [if_neg k8, if_neg k8]
  exact ro_sl S1 hl hk
theorem pm_cj {S : Nat → Prop} [∀ i, Decidable (S i)] {e m : Nat} {f h f' h' : R4 → R4 → R4} {ys : Nat → R4} (hf : ∀ a b, cj (f (cj a) (cj b)) = f' a b) (hh : ∀ a b, cj (h (cj a) (cj b)) = h' a b) (k : Nat) : cj (pm S e f h (fun a => cj (ys a)) m k) = pm S e f' h' ys m k := by
  unfold pm
  by_cases c : S k ∧ k < m
  · rw [if_pos c, if_pos c, hf]
  · rw [if_neg c, if_neg c]
    by_cases c2 : S (k ^^^ e) ∧ k ^^^ e < m
    · rw [if_pos c2, if_pos c2, hh]
    · rw [if_neg c2, if_neg c2, cj_cj]
theorem cj_ng (x : R4) : cj (ng x) = ng (cj x) := by
  unfold cj ng
  rfl
theorem t8_mod (x : R4) {n m : Nat} (h : n % 8 = m % 8) : t8n n x = t8n m x := by
  rw [t8n_m x n, t8n_m x m, h]
theorem cj_t (x : R4) (n m : Nat) (h : 7 * n % 8 = m % 8) : cj (t8n n (cj x)) = t8n m x := by
  rw [cj_t8n, cj_cj]
  exact t8_mod x h
theorem eig_m : ∀ k, k < 9 → 7 * eig k false % 8 = eig k true % 8 := by decide
theorem gx_cj {kd t s c m : Nat} {ys : Nat → R4} (h8 : kd ≤ 8) (k : Nat) : cj (gx kd t s c false m (fun a => cj (ys a)) k) = gx kd t s c true m ys k := by
  unfold gx
  by_cases k0 : kd = 0
  · rw [if_pos k0, if_pos k0]
    exact pm_cj (fun _ b => cj_cj b) (fun a _ => cj_cj a) k
  rw [if_neg k0, if_neg k0]
  by_cases k1 : kd = 1
  · rw [if_pos k1, if_pos k1]
    exact pm_cj (fun _ b => cj_t b 6 2 (by decide)) (fun a _ => cj_t a 2 6 (by decide)) k
  rw [if_neg k1, if_neg k1]
  by_cases k3 : kd = 3
  · rw [if_pos k3, if_pos k3]
    unfold bh
    by_cases a : k &&& c = c
    · rw [if_pos a, if_pos a]
      exact pm_cj (fun a b => by rw [cj_ra, cj_cj, cj_cj]) (fun a b => by rw [cj_ra, cj_ng, cj_cj, cj_cj]) k
    · rw [if_neg a, if_neg a]
      by_cases l : k < m
      · rw [if_pos l, if_pos l, cj_rr, cj_cj]
      · rw [if_neg l, if_neg l, cj_cj]
  rw [if_neg k3, if_neg k3]
  by_cases k8 : kd = 8
  · rw [if_pos k8, if_pos k8]
    exact pm_cj (fun _ b => cj_cj b) (fun a _ => cj_cj a) k
  rw [if_neg k8, if_neg k8]
  unfold rotm
  by_cases a : gS1 t c k ∧ k < m
  · rw [if_pos a, if_pos a]
    exact cj_t _ _ _ (eig_m kd (by omega))
  · rw [if_neg a, if_neg a, cj_cj]
end GXS
