/-! the least cost: the reference's call, the pair -/
def cl_J (G c : Nat → Nat) (f g : Nat → Int32) (k : Nat) : Prop := (∀ T, 0 < T → T < k → f T = nI (xl G T)) ∧ ∀ T, 0 < T → T < k → g T = nI (c T) ∧ CO G c T ∧ c T ≤ 65536 * (T - 1)
theorem cl_JI {G c : Nat → Nat} {f g : Nat → Int32} {k : Nat} (h : cl_J G c f g k) : cl_I G c (upd f 0 0) g k := by
  refine ⟨fun T hT => ?_, h.2⟩
  unfold upd
  by_cases e : T = 0
  · rw [if_pos e, e, xl0]; rfl
  · rw [if_neg e]; exact h.1 T (by omega) hT
theorem cl_nextJ {G c : Nat → Nat} {f g : Nat → Int32} {k v : Nat} (h0 : 0 < k) (h : cl_J G c f g k) (h1 : k &&& (k - 1) = 0 → v = 0) (h2 : k &&& (k - 1) ≠ 0 → (∀ a, SP k a → v ≤ cst G c k a) ∧ ∃ a, SP k a ∧ v = cst G c k a) (hG : ∀ i, i < 9 → G i < 65536) : cl_J G (fun T => if T = k then v else c T) (upd f k (nI (xl G k))) (upd g k (nI v)) (k + 1) := by
  have q := cl_next h0 (cl_JI h) h1 h2 hG
  refine ⟨fun T t0 t1 => ?_, q.2⟩
  have q1 := q.1 T t1
  unfold upd at q1 ⊢
  by_cases e : T = k
  · rw [if_pos e]; rw [if_pos e] at q1; exact q1
  · rw [if_neg e]; rw [if_neg e, if_neg (by omega)] at q1; exact q1
section COF
variable {d : Nat} {M : mm_M} {G c : Nat → Nat} {S : Nat}
set_option maxRecDepth 100000 in
theorem fc_find {f g : Nat → Int32} (hS : S < 512) (h0 : 0 < S) (hG : ∀ i, i < 9 → G i < 65536) (h166 : ∀ i, i < 9 → M.1 166 i = nI (G i)) (hI : cl_J G c f g S) : am_M (d + 2) false nm_X12_findCost [aR 108, aI (nI S)] (mm_i (mm_i M 167 f) 168 g) (fun r M' => r = .inl none ∧ ∃ v, M' = mm_i (mm_i M 167 (upd f S (nI (xl G S)))) 168 (upd g S (nI v)) ∧ (S &&& (S - 1) = 0 → v = 0) ∧ (S &&& (S - 1) ≠ 0 → (∀ a, SP S a → v ≤ cst G c S a) ∧ ∃ a, SP S a ∧ v = cst G c S a)) := by
  refine ⟨rfl, rfl, rfl, fun X hX => am_run hX 7 _ _ _ _ ?_⟩
  conv => whnf
  refine ⟨vp_in_nI (by show _ < 512; omega) (by decide), ?_⟩
  conv => whnf
  rw [nI_clamp (by omega)]
  have key := fc_l1 (M := mm_i (mm_i M 167 f) 168 g) (G := G) (S := S) hX hS (fun i hi => by rw [mm_ne _ _ _ _ (by decide), mm_ne _ _ _ _ (by decide)]; exact h166 i hi) (fun l2 l3 l4 => ?_) 9 0 (by omega) none none
  · exact key
  · have eM : mm_i (mm_i (mm_i M 167 f) 168 g) 167 (upd ((mm_i (mm_i M 167 f) 168 g).1 167) S (nI (xl G S))) = mm_i (mm_i M 167 (upd f S (nI (xl G S)))) 168 g := by
      rw [mm_ne _ _ _ _ (by decide), mm_i1, mm_ic _ 168 167 _ _ (by decide), mm_ii]
    rw [eM]
    refine am_run hX 9 _ _ _ _ ?_
    conv => whnf
    refine ⟨vp_in_nI (by show _ < 512; omega) (by decide), ?_⟩
    conv => whnf
    rw [nI_clamp (by omega), mm_i1, mm_ii]
    refine am_c1 (ct_count d _ (by omega) _) ?_
    conv => whnf
    have hend : ∀ w, fc_I G c S S w → (fun (r : am_R) (M' : mm_M) => r = .inl none ∧ ∃ v, M' = mm_i (mm_i M 167 (upd f S (nI (xl G S)))) 168 (upd g S (nI v)) ∧ (S &&& (S - 1) = 0 → v = 0) ∧ (S &&& (S - 1) ≠ 0 → (∀ a, SP S a → v ≤ cst G c S a) ∧ ∃ a, SP S a ∧ v = cst G c S a)) (.inl none) (mm_i (mm_i M 167 (upd f S (nI (xl G S)))) 168 (upd g S w)) := fun w hw => by
      refine ⟨rfl, ?_⟩
      rcases hw with ⟨hp, e⟩ | ⟨hp, ⟨e, q⟩ | ⟨v, e, vb, q, t, ht, qt⟩⟩
      · exact ⟨0, by rw [e]; rfl, fun _ => rfl, fun q => absurd hp q⟩
      · exfalso
        have hr : SP S (S &&& (S - 1)) := rs_SP hS h0 (by omega) (Nat.and_self _)
        by_cases hle : S &&& (S - 1) ≤ S ^^^ (S &&& (S - 1))
        · exact q _ ⟨hr, hle⟩ hr.2.1
        · have ho := SP_o hr
          exact q _ ⟨ho, by rw [sb_xx]; omega⟩ ho.2.1
      · refine ⟨v, by rw [e], fun q => absurd q hp, fun _ => ⟨fun a ha => ?_, t, ht.1, qt⟩⟩
        by_cases hle : a ≤ S ^^^ a
        · exact q a ⟨ha, hle⟩ ha.2.1
        · have ho := SP_o ha
          rw [← cst_o]
          exact q _ ⟨ho, by rw [sb_xx]; omega⟩ ho.2.1
    have hf : ∀ T, 0 < T → T < S → upd f S (nI (xl G S)) T = nI (xl G T) := fun T t0 t1 => by
      unfold upd; rw [if_neg (by omega)]; exact hI.1 T t0 t1
    refine ⟨fun hc => ?_, fun hc => ?_⟩
    · have hp : S &&& (S - 1) ≠ 0 := fun e => hc (by rw [(pw1 S hS h0).mpr e]; rfl)
      refine am_run hX 2 _ _ _ _ ?_
      conv => whnf
      exact fc_l2 (M := M) (G := G) (c := c) hX hS hG hf (fun T t0 t1 => (hI.2 T t0 t1).1) (fun T t0 t1 => (hI.2 T t0 t1).2.2) hend (S - 1) 1 (by omega) (by decide) (-1) (Or.inr ⟨hp, Or.inl ⟨rfl, fun t ht hlt => by have := ht.1.1; omega⟩⟩) _ _
    · have hp : S &&& (S - 1) = 0 := by
        rw [← pw1 S hS h0]
        have hc : ¬ ¬ nI (pc S) = 1 := hc
        apply Decidable.byContradiction
        intro h2
        have hb := pcn_b 32 S
        exact hc (fun e => h2 ((nI_eq (a := pc S) (b := 1) (by unfold pc; omega) (by decide)).mp e))
      refine am_run hX 7 _ _ _ _ ?_
      conv => whnf
      refine ⟨vp_in_nI (by show _ < 512; omega) (by decide), ?_⟩
      conv => whnf
      rw [nI_clamp (by omega), mm_i1, mm_ii, upd_two]
      exact fc_l2 (M := M) (G := G) (c := c) hX hS hG hf (fun T t0 t1 => (hI.2 T t0 t1).1) (fun T t0 t1 => (hI.2 T t0 t1).2.2) hend (S - 1) 1 (by omega) (by decide) 0 (Or.inl ⟨hp, rfl⟩) _ _
set_option maxRecDepth 100000 in
theorem fc_out {n : Nat} {P : am_Q} {X : am_X} (hX : am_K (d + 2) false nm_X12_cost P X) (hn1 : 1 ≤ n) (hn : n ≤ 9) (hG : ∀ i, i < 9 → G i < 65536) (h166 : ∀ i, i < 9 → M.1 166 i = nI (G i)) (hP : ∀ f g c, cl_J G c f g (2 ^ n) → P (.inl (some (aI (nI (c (2 ^ n - 1)))))) (mm_i (mm_i M 167 f) 168 g)) : ∀ (m k : Nat), k + m = 2 ^ n → 0 < k → ∀ f g c, cl_J G c f g k → X 20 [some (aR 108), some (aI (nI n)), some (aI (nI k))] [] (mm_i (mm_i M 167 f) 168 g) := by
  have h9 : 2 ^ n ≤ 2 ^ 9 := Nat.pow_le_pow_right (by decide) hn
  have h2 : 2 ^ 1 ≤ 2 ^ n := Nat.pow_le_pow_right (by decide) hn1
  intro m
  induction m with
  | zero =>
    intro k hk hk0 f g c hI
    have hk : k = 2 ^ n := by omega
    subst hk
    refine am_run hX 5 _ _ _ _ ?_
    conv => whnf
    rw [sh2 n (by omega)]
    refine ⟨fun _ => ?_, fun c => absurd (nI_le (Nat.le_refl _) (by omega)) c⟩
    refine am_run hX 9 _ _ _ _ ?_
    conv => whnf
    rw [sh2 n (by omega), nI_s1 _ hk0]
    refine ⟨vp_in_nI (by show _ < 512; omega) (by decide), ?_⟩
    conv => whnf
    refine ⟨trivial, ?_⟩
    rw [nI_clamp (by omega), mm_i1, (hI.2 (2 ^ n - 1) (by omega) (by omega)).1]
    exact hP f g c hI
  | succ m ih =>
    intro k hk hk0 f g c hI
    refine am_run hX 5 _ _ _ _ ?_
    conv => whnf
    rw [sh2 n (by omega)]
    refine ⟨fun c => absurd c (nI_ge (by omega) (by omega)), fun _ => ?_⟩
    refine am_run hX 5 _ _ _ _ ?_
    conv => whnf
    refine am_cq (fc_find (d := d) (M := M) (G := G) (c := c) (S := k) (by omega) hk0 hG h166 hI) ?_
    rintro r M' ⟨rfl, v, rfl, v1, v2⟩
    refine ⟨_, rfl, ?_⟩
    conv => whnf
    rw [nI_1]
    exact ih (k + 1) (by omega) (by omega) _ _ _ (cl_nextJ hk0 hI v1 v2 hG)
set_option maxRecDepth 100000 in
theorem fc_cost {n : Nat} (hn1 : 1 ≤ n) (hn : n ≤ 9) (hG : ∀ i, i < 9 → G i < 65536) (h166 : ∀ i, i < 9 → M.1 166 i = nI (G i)) : am_M (d + 3) false nm_X12_cost [aR 108, aI (nI n)] M (fun r M' => ∃ f g c, cl_J G c f g (2 ^ n) ∧ r = .inl (some (aI (nI (c (2 ^ n - 1))))) ∧ M' = mm_i (mm_i (th0 M) 167 f) 168 g) := by
  have h9 : 2 ^ n ≤ 2 ^ 9 := Nat.pow_le_pow_right (by decide) hn
  have h2 : 2 ^ 1 ≤ 2 ^ n := Nat.pow_le_pow_right (by decide) hn1
  refine ⟨rfl, rfl, rfl, fun X hX => am_run hX 6 _ _ _ _ ?_⟩
  conv => whnf
  refine ⟨fun c => absurd c (nI_nlt (b := 1) hn1 (by omega)), fun _ => ?_⟩
  refine am_run hX 3 _ _ _ _ ?_
  conv => whnf
  refine ⟨fun _ => ?_, fun c => absurd (nI_le (b := 9) hn (by decide)) c⟩
  refine am_run hX 2 _ _ _ _ ?_
  conv => whnf
  have key := fc_out (G := G) (M := th0 M) (n := n) hX hn1 hn hG h166 (fun f g c hI => ⟨f, g, c, hI, rfl, rfl⟩) (2 ^ n - 1) 1 (by omega) (by decide) ((th0 M).1 167) ((th0 M).1 168) (fun _ => 0) ⟨fun T t0 t1 => by omega, fun T t0 t1 => by omega⟩
  rw [mm_iz, mm_iz] at key
  exact key
set_option maxRecDepth 100000 in
theorem fc_cost0 {p : Int32} (hp : p < 1 ∨ 9 < p) : am_M (d + 3) false nm_X12_cost [aR 108, aI p] M (am_q1 (aI (-1)) (th0 M)) := by
  refine ⟨rfl, rfl, rfl, fun X hX => am_run hX 20 _ _ _ _ ?_⟩
  conv => whnf
  refine ⟨fun _ => ?_, fun c => ?_⟩
  · conv => whnf
    exact ⟨trivial, rfl, rfl⟩
  · conv => whnf
    refine ⟨fun c2 => absurd (hp.resolve_left c) (Int32.not_lt.mpr c2), fun _ => ?_⟩
    conv => whnf
    exact ⟨trivial, rfl, rfl⟩
end COF
section COP
variable {ac : Nat → ClassId} {lo : Nat} {ad as : Nat → Nat} {b L : Nat} {xs : Nat → Int32} {hp : mm_M → Nat → xm_H} {I J : mm_M → Prop}
/-- the network as both have it -/
def nw_iv (M : mm_M) : Prop := M.1 81 0 = 0 ∧ ∀ i, i < 9 → ∃ g, g < 65536 ∧ M.1 71 i = nI g ∧ M.1 166 i = nI g
theorem pr_cost (H : mm_L ac lo hp) (h1 : ∀ M, I M → nw_iv M) (hJ0 : ∀ M, I M → J (th0 M)) (hJ : ∀ M f g f' g', I M → f 0 = 0 → J (mm_i (mm_i (th0 (mm_i (mm_i M 81 f) 82 g)) 167 f') 168 g')) (p : Int32) : la_I ac lo ad as b L xs hp I J nm_X11_cost nm_X12_cost [.int p] := by
  refine am_la_I (us := [aI p]) H fun M hI => ?_
  obtain ⟨h0, hg⟩ := h1 M hI
  by_cases hp : p < 1 ∨ 9 < p
  · refine am_wk (cl_cost0 (d := 996) hp) fun r M1 e => ⟨-1, e.1, ?_⟩
    rw [e.2]
    exact am_wk (fc_cost0 (d := 997) hp) fun r M1 e => ⟨e.1, by rw [e.2]; exact hJ0 M hI⟩
  · have hp0 : ¬ p < 0 := fun q => hp (Or.inl (Int32.lt_trans q (by decide)))
    obtain ⟨n, hn, rfl⟩ := nI_of hp0
    have n1 : 1 ≤ n := by
      apply Decidable.byContradiction
      intro hc
      have : n = 0 := by omega
      subst this
      exact hp (Or.inl (by decide))
    have n9 : n ≤ 9 := by
      apply Decidable.byContradiction
      intro hc
      exact hp (Or.inr (nI_lt (a := 9) (by omega) hn))
    have hG : ∀ i, i < 9 → (M.1 71 i).toNatClampNeg < 65536 := fun i hi => by
      obtain ⟨g, g1, g2, _⟩ := hg i hi
      rw [g2, nI_clamp (by omega)]
      exact g1
    refine am_wk (cl_cost (d := 996) (G := fun i => (M.1 71 i).toNatClampNeg) n1 n9 hG (fun i hi => ?_) h0) ?_
    · obtain ⟨g, g1, g2, _⟩ := hg i hi
      rw [g2, nI_clamp (by omega)]
    · rintro r M1 ⟨f, g, c, hc, rfl, rfl⟩
      refine ⟨_, rfl, am_wk (fc_cost (d := 997) (G := fun i => (M.1 71 i).toNatClampNeg) n1 n9 hG (fun i hi => ?_)) ?_⟩
      · rw [mm_ne _ _ _ _ (by decide), mm_ne _ _ _ _ (by decide)]
        obtain ⟨g, g1, g2, g3⟩ := hg i hi
        rw [g2, g3, nI_clamp (by omega)]
      · rintro r M2 ⟨f', g', c', hc', rfl, rfl⟩
        have h2 : 2 ^ 1 ≤ 2 ^ n := Nat.pow_le_pow_right (by decide) n1
        have e := CO_eq (fun S s0 s1 => (hc.2 S s0 s1).2.1) (fun S s0 s1 => (hc'.2 S s0 s1).2.1) (2 ^ n - 1) (by omega) (by omega)
        refine ⟨by rw [e], hJ M f g f' g' hI ?_⟩
        rw [hc.1 0 (by omega), xl0]
        rfl
end COP
