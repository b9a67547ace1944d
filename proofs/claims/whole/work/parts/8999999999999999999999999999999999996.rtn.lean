/-! ROUTE: what is needed from an arrangement on -/
def kst (Lk : Nat → Nat → Bool) (O : Nat → Option (Nat × Nat)) (S i : Nat) (p : List Nat) : List Nat × Nat := (p, adv (rtQq Lk O p) S i)
def ndP (Lk : Nat → Nat → Bool) (O : Nat → Option (Nat × Nat)) (S i : Nat) (p : List Nat) (n : Nat) : Prop := dlV (rtS Lk O S) (rtV Lk) (rtG S) (kst Lk O S i p) n
section RTN
variable {Lk : Nat → Nat → Bool} {O : Nat → Option (Nat × Nat)} {S W : Nat} {p : List Nat}
theorem nd_u {i a b : Nat} (h : ndP Lk O S i p a) (g : ndP Lk O S i p b) : a = b := dlV_u h g
theorem nd_S : ndP Lk O S S p 0 := ⟨⟨[], alV_0, rfl, ad_o (Nat.le_refl _)⟩, fun _ _ _ => Nat.zero_le _⟩
theorem kst_t {i : Nat} (hi : i < S) (h : rtQq Lk O p i = true) : kst Lk O S i p = kst Lk O S (i + 1) p := by
  unfold kst
  rw [ad_s h hi]
theorem kst_f {i : Nat} (h : rtQq Lk O p i = false) : kst Lk O S i p = (p, i) := by
  unfold kst
  rw [ad_z h]
theorem nd_t {i n : Nat} (hi : i < S) (h : rtQq Lk O p i = true) : ndP Lk O S i p n ↔ ndP Lk O S (i + 1) p n := by
  unfold ndP
  rw [kst_t hi h]
theorem nd_0 {i : Nat} (hi : i < S) (h : rtQq Lk O p i = false) : ¬ ndP Lk O S i p 0 := fun q => by
  obtain ⟨⟨w, _, w2, w3⟩, _⟩ := q
  have : w = [] := List.length_eq_zero_iff.mp w2
  rw [this, kst_f h] at w3
  have w3 : i = S := w3
  omega
theorem nd_f {i n : Nat} (h : rtQq Lk O p i = false) (g : ndP Lk O S i p (n + 1)) : ∃ e, rtV Lk e ∧ ndP Lk O S i (p.map (swx e)) n := by
  obtain ⟨e, he, q⟩ := dlV_f g
  rw [kst_f h] at q
  exact ⟨e, he, q⟩
theorem rtR_w : ∀ (w : List Nat) (k k' : List Nat × Nat), rtR k k' → rtR (awS (rtS Lk O S) w k) (awS (rtS Lk O S) w k')
  | [], _, _, h => h
  | e :: w, k, k', h => rtR_w w _ _ (rtR_s k k' e h)
/-- one SWAP more or less -/
theorem nd_l {i b e : Nat} (hi : i ≤ S) (he : rtV Lk e) (g : ndP Lk O S i (p.map (swx e)) b) : ∃ a, a ≤ b + 1 ∧ ndP Lk O S i p a := by
  obtain ⟨⟨w, w1, w2, w3⟩, _⟩ := g
  have w3 : (awS (rtS Lk O S) w (kst Lk O S i (p.map (swx e)))).2 = S := w3
  have hR : rtR (rtS Lk O S e (kst Lk O S i p)) (kst Lk O S i (p.map (swx e))) := ⟨rfl, ad_m (ad_ge _)⟩
  have h2 := (rtR_w (Lk := Lk) (O := O) (S := S) w _ _ hR).2
  have h3 : (awS (rtS Lk O S) w (rtS Lk O S e (kst Lk O S i p))).2 ≤ S := rt_s (Lk := Lk) (O := O) w _ (ad_le (ad_le hi))
  have hg : rtG S (awS (rtS Lk O S) (e :: w) (kst Lk O S i p)) := by
    show (awS (rtS Lk O S) w (rtS Lk O S e (kst Lk O S i p))).2 = S
    omega
  obtain ⟨a, a1, a2⟩ := dlV_e (st := rtS Lk O S) (V := rtV Lk) (G := rtG S) (alV_c he w1) hg
  refine ⟨a, ?_, a2⟩
  have : (e :: w).length = w.length + 1 := rfl
  omega
theorem map_2 {e : Nat} (ha : arr W p) (h1 : e < 36) (h2 : e / 6 < e % 6) : (p.map (swx e)).map (swx e) = p := by
  rw [List.map_map]
  have : ∀ q : List Nat, (∀ x ∈ q, x < 6) → q.map (swx e ∘ swx e) = q := by
    intro q
    induction q with
    | nil => exact fun _ => rfl
    | cons x q ih =>
      intro h
      rw [List.map_cons, ih (fun y hy => h y (List.mem_cons_of_mem _ hy))]
      show swx e (swx e x) :: q = _
      rw [swx_i e h1 h2 x (h x List.mem_cons_self)]
  exact this p ha.2.1
theorem nd_b {i a e : Nat} (hi : i ≤ S) (ha : arr W p) (he : rtV Lk e) (g : ndP Lk O S i p a) : ∃ b, b ≤ a + 1 ∧ ndP Lk O S i (p.map (swx e)) b := by
  have e2 := map_2 ha he.1 he.2.1
  exact nd_l (p := p.map (swx e)) hi he (by rw [e2]; exact g)
/-- what is needed, as a number: 2 ^ 30 stands for more than 1000 -/
def ndv (Lk : Nat → Nat → Bool) (O : Nat → Option (Nat × Nat)) (S i : Nat) (p : List Nat) (v : Nat) : Prop := (v ≤ 1000 ∧ ndP Lk O S i p v) ∨ (v = 1073741824 ∧ ∀ n, n ≤ 1000 → ¬ ndP Lk O S i p n)
theorem ndv_k {i v : Nat} (h : ndv Lk O S i p v) (hv : v ≠ 1073741824) : v ≤ 1000 ∧ ndP Lk O S i p v := h.elim (fun q => q) (fun q => absurd q.1 hv)
theorem ndv_e {i v n : Nat} (h : ndv Lk O S i p v) (hn : n ≤ 1000) (g : ndP Lk O S i p n) : v = n := h.elim (fun q => nd_u q.2 g) (fun q => absurd g (q.2 n hn))
/-- a row of what is needed, by rank -/
def ndR (Lk : Nat → Nat → Bool) (O : Nat → Option (Nat × Nat)) (S W i : Nat) (f : Nat → Nat) : Prop := ∀ r, r < cnW W → ndv Lk O S i (unP W r) (f r)
/-- so many are of a kind -/
def ctQ (P : Nat → Bool) : Nat → Nat
  | 0 => 0
  | n + 1 => ctQ P n + (if P n = true then 1 else 0)
theorem ctQ_0 {P : Nat → Bool} : ∀ n, (∀ r, r < n → P r = false) → ctQ P n = 0
  | 0, _ => rfl
  | n + 1, h => by
    show ctQ P n + (if P n = true then 1 else 0) = 0
    rw [ctQ_0 n (fun r hr => h r (by omega)), h n (by omega), if_neg (by decide)]
theorem ctQ_z {P : Nat → Bool} : ∀ n, ctQ P n = 0 → ∀ r, r < n → P r = false
  | 0, _, r, hr => by omega
  | n + 1, h, r, hr => by
    have h : ctQ P n + (if P n = true then 1 else 0) = 0 := h
    by_cases e : r = n
    · subst e
      cases hp : P r with
      | false => rfl
      | true =>
        rw [hp, if_pos rfl] at h
        omega
    · exact ctQ_z n (by omega) r (by omega)
theorem ctQ_c {P Q : Nat → Bool} : ∀ n, (∀ r, r < n → P r = Q r) → ctQ P n = ctQ Q n
  | 0, _ => rfl
  | n + 1, h => by
    show ctQ P n + (if P n = true then 1 else 0) = ctQ Q n + (if Q n = true then 1 else 0)
    rw [ctQ_c n (fun r hr => h r (by omega)), h n (by omega)]
theorem ctQ_u {P Q : Nat → Bool} {x : Nat} (h1 : P x = true) (h0 : Q x = false) (hr : ∀ r, r ≠ x → Q r = P r) : ∀ n, x < n → ctQ P n = ctQ Q n + 1
  | 0, hx => by omega
  | n + 1, hx => by
    show ctQ P n + (if P n = true then 1 else 0) = ctQ Q n + (if Q n = true then 1 else 0) + 1
    by_cases e : x = n
    · subst e
      rw [h1, h0, if_pos rfl, if_neg (by decide), ctQ_c x (fun r hr' => (hr r (by omega)).symm)]
    · rw [ctQ_u h1 h0 hr n (by omega), hr n (fun z => e z.symm)]
      omega
theorem ctQ_l {P : Nat → Bool} : ∀ n, ctQ P n ≤ n
  | 0 => Nat.le_refl _
  | n + 1 => by
    have := ctQ_l (P := P) n
    show ctQ P n + (if P n = true then 1 else 0) ≤ n + 1
    split <;> omega
theorem ctQ_s {P Q : Nat → Bool} : ∀ n, ctQ (fun r => P r && Q r) n + ctQ (fun r => P r && !Q r) n = ctQ P n
  | 0 => rfl
  | n + 1 => by
    have ih := ctQ_s (P := P) (Q := Q) n
    show ctQ (fun r => P r && Q r) n + (if (P n && Q n) = true then 1 else 0) + (ctQ (fun r => P r && !Q r) n + (if (P n && !Q n) = true then 1 else 0)) = ctQ P n + (if P n = true then 1 else 0)
    cases P n <;> cases Q n <;> simp <;> omega
end RTN
