/-! LEAST: comesInOrder, tryGates -/
theorem cg_m : ∀ a, a < 12 → ∀ b, b < 12 → (cmg a b = true ↔ lsC a / 2 ^ (b / 4) % 2 = 0 ∧ lsC b / 2 ^ (a / 4) % 2 = 0) := by decide +kernel
def ino (a b : Nat) : Nat := if a < b ∨ cmg a b = false then 1 else 0
theorem up_at {f : Nat → Int32} {i : Nat} {v : Int32} : upd f i v i = v := if_pos rfl
section LEC
variable {d : Nat} {M : mm_M}
theorem cg_s {a b : Nat} (ha : a < 12) (hb : b < 12) : nI (lsC a) >>> (nI b >>> ((2 : Int32) &&& 31) &&& 31) &&& 1 = nI (lsC a / 2 ^ (b / 4) % 2) := by
  have := cg_8 a ha
  rw [show nI b >>> ((2 : Int32) &&& 31) = nI (b / 4) from nI_sh (by omega) 2 (by decide), nI_sh (by omega) _ (by omega), nI_m1]
set_option maxRecDepth 100000 in
theorem ct_ino0 : am_M (d + 1) false nm_X7_comesInOrder [aR 70, aI (nI 0)] M (am_q1 (aI (nI 1)) M) := by
  refine ⟨rfl, rfl, rfl, fun X hX => am_run hX 40 _ _ _ _ ?_⟩
  conv => whnf
  refine ⟨fun _ => ?_, fun c => absurd rfl c⟩
  conv => whnf
  exact ⟨rfl, rfl, rfl⟩
set_option maxRecDepth 100000 in
theorem ct_ino {k a b : Nat} (hk : k < 300) (ha : a < 12) (hb : b < 12) (e1 : M.1 73 k = nI a) (e2 : M.1 73 (k + 1) = nI b) : am_M (d + 1) false nm_X7_comesInOrder [aR 70, aI (nI (k + 1))] M (am_q1 (aI (nI (ino a b))) M) := by
  refine ⟨rfl, rfl, rfl, fun X hX => am_run hX 60 _ _ _ _ ?_⟩
  conv => whnf
  refine ⟨fun c => absurd ((nI_eq (b := 0) (by omega) (by decide)).mp c) (by omega), fun _ => ?_⟩
  conv => whnf
  refine ⟨vp_in_nI (by show _ < 301; omega) (by decide), ?_⟩
  conv => whnf
  rw [nI_clamp (n := k + 1) (by omega), nI_s1 (k + 1) (by omega), show k + 1 - 1 = k from rfl]
  refine ⟨vp_in_nI (by show _ < 301; omega) (by decide), ?_⟩
  conv => whnf
  rw [nI_clamp (n := k) (by omega), e1, e2]
  refine ⟨fun c => ?_, fun c => ?_⟩
  · have l : ¬ a < b := fun h => absurd c (nI_ge h (by omega))
    conv => whnf
    rw [nI_s1 (k + 1) (by omega), show k + 1 - 1 = k from rfl]
    refine ⟨vp_in_nI (by show _ < 301; omega) (by decide), ?_⟩
    conv => whnf
    refine ⟨vp_in_nI (by show _ < 301; omega) (by decide), ?_⟩
    conv => whnf
    rw [nI_clamp (n := k) (by omega), nI_clamp (n := k + 1) (by omega), e1, e2]
    refine ⟨vp_in_nI (by show _ < 12; omega) (by decide), ?_⟩
    conv => whnf
    rw [nI_clamp (n := a) (by omega), show (fun j => xp_a4.getD j 0) a = nI (lsC a) from cg_a a ha, cg_s ha hb]
    refine ⟨fun c => ?_, fun c => ?_⟩
    · have z : lsC a / 2 ^ (b / 4) % 2 ≠ 0 := fun h => c (by rw [h]; rfl)
      have f : cmg a b = false := Bool.eq_false_iff.mpr fun h => z ((cg_m a ha b hb).mp h).1
      conv => whnf
      rw [show ino a b = 1 from if_pos (.inr f)]
      exact ⟨rfl, rfl, rfl⟩
    · have z : lsC a / 2 ^ (b / 4) % 2 = 0 := (nI_eq (b := 0) (by omega) (by decide)).mp (Decidable.byContradiction c)
      conv => whnf
      refine ⟨vp_in_nI (by show _ < 12; omega) (by decide), ?_⟩
      conv => whnf
      rw [nI_clamp (n := b) (by omega), show (fun j => xp_a4.getD j 0) b = nI (lsC b) from cg_a b hb, cg_s hb ha]
      refine ⟨fun c => ?_, fun c => ?_⟩
      · have z2 : lsC b / 2 ^ (a / 4) % 2 = 0 := (nI_eq (b := 0) (by omega) (by decide)).mp c
        have f : cmg a b = true := (cg_m a ha b hb).mpr ⟨z, z2⟩
        conv => whnf
        rw [show ino a b = 0 from if_neg (fun h => h.elim l (fun q => by rw [f] at q; cases q))]
        exact ⟨rfl, rfl, rfl⟩
      · have z2 : lsC b / 2 ^ (a / 4) % 2 ≠ 0 := fun h => c (by rw [h]; rfl)
        have f : cmg a b = false := Bool.eq_false_iff.mpr fun h => z2 ((cg_m a ha b hb).mp h).2
        conv => whnf
        rw [show ino a b = 1 from if_pos (.inr f)]
        exact ⟨rfl, rfl, rfl⟩
  · have l : a < b := Nat.lt_of_not_le fun h => c (nI_le h (by omega))
    conv => whnf
    rw [show ino a b = 1 from if_pos (.inl l)]
    exact ⟨rfl, rfl, rfl⟩
/-- what comesInOrder answers at depth k, with g there and the row f -/
theorem ct_inok {k g : Nat} {f : Nat → Int32} (hk : k < 300) (hg : g < 12) (hf : 1 ≤ k → ∃ a, a < 12 ∧ f (k - 1) = nI a) : ∃ v, v < 2 ∧ am_M (d + 1) false nm_X7_comesInOrder [aR 70, aI (nI k)] (mm_i M 73 (upd f k (nI g))) (am_q1 (aI (nI v)) (mm_i M 73 (upd f k (nI g)))) ∧ (k = 0 → v = 1) ∧ (1 ≤ k → ∀ a, a < 12 → f (k - 1) = nI a → v = ino a g) := by
  by_cases c : k = 0
  · subst c
    exact ⟨1, by omega, ct_ino0, fun _ => rfl, fun h => absurd h (by omega)⟩
  · have ⟨a, ha, ea⟩ := hf (by omega)
    have ⟨j, ej⟩ : ∃ j, k = j + 1 := ⟨k - 1, by omega⟩
    subst ej
    refine ⟨ino a g, by unfold ino; split <;> omega, ct_ino (k := j) (by omega) ha hg ?_ ?_, fun h => absurd h c, fun _ a' ha' e' => ?_⟩
    · rw [mm_i1, up_ne (by omega)]; exact ea
    · rw [mm_i1]; exact up_at
    · have : a = a' := (nI_eq (by omega) (by omega)).mp (ea.symm.trans e')
      rw [this]
variable {T : Nat → Nat}
set_option maxRecDepth 100000 in
theorem try_0 {q k : Nat} (hq : isP q) (ht : trr (M.1 78) T) (hl : tl T) : am_M (d + 3) false nm_X7_tryGates [aR 70, aI (nI q), aI (nI 0), aI (nI k)] M (am_q1 (aI (nI (if dq q < 4 then 1 else 0))) M) := by
  have ql := isP_lt hq
  refine ⟨rfl, rfl, rfl, fun X hX => am_run hX 40 _ _ _ _ ?_⟩
  conv => whnf
  refine ⟨fun _ => ?_, fun c => absurd rfl c⟩
  conv => whnf
  refine am_c1 (ct_near (isP_lt hq) ht) ?_
  conv => whnf
  rw [tl_n hl hq]
  by_cases c : dq q < 4
  · rw [if_pos c, if_pos c]
    refine ⟨fun h => absurd ((nI_eq (b := 0) (by omega) (by decide)).mp h) (by omega), fun _ => ?_⟩
    conv => whnf
    exact ⟨rfl, rfl, rfl⟩
  · rw [if_neg c, if_neg c]
    refine ⟨fun _ => ?_, fun h => absurd rfl h⟩
    conv => whnf
    exact ⟨rfl, rfl, rfl⟩
set_option maxRecDepth 100000 in
/-- one gate of a turn, where what lies behind it comes to nothing -/
theorem try_n {P : am_Q} {X : am_X} {n q k g : Nat} {f : Nat → Int32} (hX : am_K (d + n + 3) false nm_X7_tryGates P X) (hq : isP q) (hk : k < 300) (hg : g < 12) (hf : 1 ≤ k → ∃ a, a < 12 ∧ f (k - 1) = nI a) (hr : am_M (d + n + 3) false nm_X7_tryGates [aR 70, aI (nI (gaN q g)), aI (nI n), aI (nI (k + 1))] (mm_i M 73 (upd f k (nI g))) (fun r M' => r = .inl (some (aI 0)) ∧ ∃ f', M' = mm_i M 73 f' ∧ ∀ j, j < k + 1 → f' j = upd f k (nI g) j)) (hK : ∀ f', (∀ j, j < k → f' j = f j) → X 26 [some (aR 70), some (aI (nI q)), some (aI (nI (n + 1))), some (aI (nI k)), some (aI (nI (g + 1)))] [] (mm_i M 73 f')) : X 26 [some (aR 70), some (aI (nI q)), some (aI (nI (n + 1))), some (aI (nI k)), some (aI (nI g))] [] (mm_i M 73 f) := by
  have ⟨v, hv, hc, _, _⟩ := ct_inok (d := d + n + 2) (M := M) hk hg hf
  refine am_run hX 3 _ _ _ _ ?_
  conv => whnf
  refine ⟨fun c => absurd c (nI_ge (b := 12) (by omega) (by decide)), fun _ => ?_⟩
  refine am_run hX 9 _ _ _ _ ?_
  conv => whnf
  refine ⟨vp_in_nI (by show k < 301; omega) (by decide), ?_⟩
  conv => whnf
  rw [nI_clamp (n := k) (by omega), mm_i1, mm_ii]
  refine am_c1 hc ?_
  conv => whnf
  have fin : ∀ f', (∀ j, j < k → f' j = f j) → X 70 [some (aR 70), some (aI (nI q)), some (aI (nI (n + 1))), some (aI (nI k)), some (aI (nI g))] [] (mm_i M 73 f') := fun f' h' => by
    refine am_run hX 2 _ _ _ _ ?_
    conv => whnf
    rw [nI_1]
    exact hK f' h'
  refine ⟨fun _ => fin _ (fun j hj => up_ne (by omega)), fun _ => ?_⟩
  refine am_run hX 12 _ _ _ _ ?_
  conv => whnf
  refine am_c1 (ct_gated (isP_lt hq) hg) ?_
  conv => whnf
  rw [nI_s1 (n + 1) (by omega), show n + 1 - 1 = n from rfl, nI_1]
  refine am_cq hr (fun r M' h => ?_)
  obtain ⟨rfl, f', rfl, hf'⟩ := h
  refine ⟨_, rfl, ?_⟩
  conv => whnf
  refine ⟨fun _ => fin f' (fun j hj => by rw [hf' j (by omega)]; exact up_ne (by omega)), fun c => absurd rfl c⟩
set_option maxRecDepth 100000 in
theorem try_h {P : am_Q} {X : am_X} {n q k : Nat} (hX : am_K (d + n + 3) false nm_X7_tryGates P X) (hk : n + 1 + k ≤ 5) (hb : X 26 [some (aR 70), some (aI (nI q)), some (aI (nI (n + 1))), some (aI (nI k)), some (aI (nI 0))] [] M) : X 0 [some (aR 70), some (aI (nI q)), some (aI (nI (n + 1))), some (aI (nI k)), none] [] M := by
  refine am_run hX 2 _ _ _ _ ?_
  conv => whnf
  refine ⟨fun c => absurd ((nI_eq (b := 0) (by omega) (by decide)).mp c) (by omega), fun _ => ?_⟩
  refine am_run hX 3 _ _ _ _ ?_
  conv => whnf
  refine ⟨fun _ => ?_, fun c => absurd (nI_lt (b := 5) (by omega) (by decide)) c⟩
  refine am_run hX 2 _ _ _ _ ?_
  conv => whnf
  exact hb
theorem try_f (ht : trr (M.1 78) T) (hl : tl T) : ∀ (n q k : Nat) (f : Nat → Int32), isP q → n + k ≤ 5 → 3 + n < dq q → (1 ≤ k → ∃ a, a < 12 ∧ f (k - 1) = nI a) → am_M (d + n + 3) false nm_X7_tryGates [aR 70, aI (nI q), aI (nI n), aI (nI k)] (mm_i M 73 f) (fun r M' => r = .inl (some (aI 0)) ∧ ∃ f', M' = mm_i M 73 f' ∧ ∀ j, j < k → f' j = f j) := by
  intro n
  induction n with
  | zero =>
    intro q k f hq hk hd hf
    refine am_wk (try_0 (M := mm_i M 73 f) hq (by rw [mm_ne _ _ _ _ (by decide)]; exact ht) hl) (fun r M' h => ?_)
    obtain ⟨rfl, rfl⟩ := h
    rw [if_neg (by omega)]
    exact ⟨rfl, f, rfl, fun _ _ => rfl⟩
  | succ n ih =>
    intro q k f hq hk hd hf
    refine ⟨rfl, rfl, rfl, fun X hX => ?_⟩
    refine try_h (d := d) (n := n) hX hk ?_
    have key : ∀ (m g : Nat) (f' : Nat → Int32), g + m = 12 → (∀ j, j < k → f' j = f j) → X 26 [some (aR 70), some (aI (nI q)), some (aI (nI (n + 1))), some (aI (nI k)), some (aI (nI g))] [] (mm_i M 73 f') := by
      intro m
      induction m with
      | zero =>
        intro g f' hg h'
        have hg : g = 12 := by omega
        subst hg
        refine am_run hX 3 _ _ _ _ ?_
        conv => whnf
        refine ⟨fun _ => ?_, fun c => absurd (by decide) c⟩
        refine am_run hX 2 _ _ _ _ ?_
        conv => whnf
        exact ⟨rfl, rfl, f', rfl, h'⟩
      | succ m ihm =>
        intro g f' hg h'
        have g12 : g < 12 := by omega
        have dn := dq_dn hq g12
        have hf' : 1 ≤ k → ∃ a, a < 12 ∧ f' (k - 1) = nI a := fun h => by
          rw [h' (k - 1) (by omega)]; exact hf h
        refine try_n (d := d) (n := n) hX hq (by omega) g12 hf' (ih _ (k + 1) _ (isP_ga g12 hq) (by omega) (by omega) (fun _ => ⟨g, g12, by rw [show k + 1 - 1 = k from rfl]; exact up_at⟩)) (fun f2 h2 => ihm (g + 1) f2 (by omega) (fun j hj => (h2 j hj).trans (h' j hj)))
    exact key 12 0 f (by omega) (fun _ _ => rfl)
theorem try_t (ht : trr (M.1 78) T) (hl : tl T) : ∀ (n q k : Nat) (f : Nat → Int32), isP q → n + k ≤ 5 → dq q = 3 + n → (1 ≤ k → ∃ a, a < 12 ∧ f (k - 1) = nI a ∧ (1 ≤ n → ino a (gre q) = 1)) → am_M (d + n + 3) false nm_X7_tryGates [aR 70, aI (nI q), aI (nI n), aI (nI k)] (mm_i M 73 f) (fun r M' => r = .inl (some (aI 1)) ∧ ∃ f', M' = mm_i M 73 f' ∧ (∀ j, j < k → f' j = f j) ∧ ∀ j, j < n → f' (k + j) = nI (gw j q)) := by
  intro n
  induction n with
  | zero =>
    intro q k f hq hk hd hf
    refine am_wk (try_0 (M := mm_i M 73 f) hq (by rw [mm_ne _ _ _ _ (by decide)]; exact ht) hl) (fun r M' h => ?_)
    obtain ⟨rfl, rfl⟩ := h
    rw [if_pos (by omega)]
    exact ⟨rfl, f, rfl, fun _ _ => rfl, fun j hj => absurd hj (by omega)⟩
  | succ n ih =>
    intro q k f hq hk hd hf
    refine ⟨rfl, rfl, rfl, fun X hX => ?_⟩
    refine try_h (d := d) (n := n) hX hk ?_
    have ⟨g12, gd, gm⟩ := gre_p hq (by omega)
    have key : ∀ (m g : Nat) (f' : Nat → Int32), g + m = gre q → (∀ j, j < k → f' j = f j) → X 26 [some (aR 70), some (aI (nI q)), some (aI (nI (n + 1))), some (aI (nI k)), some (aI (nI g))] [] (mm_i M 73 f') := by
      intro m
      induction m with
      | zero =>
        intro g f' hg h'
        have hg : g = gre q := by omega
        subst hg
        have hf' : 1 ≤ k → ∃ a, a < 12 ∧ f' (k - 1) = nI a := fun h => by
          rw [h' (k - 1) (by omega)]
          have ⟨a, b, c, _⟩ := hf h
          exact ⟨a, b, c⟩
        have ⟨v, hv, hc, v0, v1⟩ := ct_inok (d := d + n + 2) (M := M) (f := f') (show k < 300 by omega) g12 hf'
        have ev : v = 1 := by
          by_cases k0 : k = 0
          · exact v0 k0
          · have ⟨a, b, c, e⟩ := hf (by omega)
            rw [v1 (by omega) a b (by rw [h' (k - 1) (by omega)]; exact c)]
            exact e (by omega)
        subst ev
        refine am_run hX 3 _ _ _ _ ?_
        conv => whnf
        refine ⟨fun c => absurd c (nI_ge (b := 12) g12 (by decide)), fun _ => ?_⟩
        refine am_run hX 9 _ _ _ _ ?_
        conv => whnf
        refine ⟨vp_in_nI (by show k < 301; omega) (by decide), ?_⟩
        conv => whnf
        rw [nI_clamp (n := k) (by omega), mm_i1, mm_ii]
        refine am_c1 hc ?_
        conv => whnf
        refine ⟨fun c => absurd c (by decide), fun _ => ?_⟩
        refine am_run hX 12 _ _ _ _ ?_
        conv => whnf
        refine am_c1 (ct_gated (isP_lt hq) g12) ?_
        conv => whnf
        rw [nI_s1 (n + 1) (by omega), show n + 1 - 1 = n from rfl, nI_1]
        have or := gre_o hq (by omega)
        refine am_cq (ih (gaN q (gre q)) (k + 1) (upd f' k (nI (gre q))) (isP_ga g12 hq) (by omega) (by omega) (fun _ => ⟨gre q, g12, by rw [show k + 1 - 1 = k from rfl]; exact up_at, fun _ => if_pos or⟩)) (fun r M' h => ?_)
        obtain ⟨rfl, f2, rfl, h2, h3⟩ := h
        refine ⟨_, rfl, ?_⟩
        conv => whnf
        refine ⟨fun c => absurd c (by decide), fun _ => ?_⟩
        refine am_run hX 2 _ _ _ _ ?_
        conv => whnf
        refine ⟨rfl, rfl, f2, rfl, fun j hj => ?_, fun j hj => ?_⟩
        · rw [h2 j (by omega), up_ne (by omega)]; exact h' j hj
        · by_cases j0 : j = 0
          · subst j0
            rw [Nat.add_zero, h2 k (by omega)]
            exact up_at
          · have ⟨i, ei⟩ : ∃ i, j = i + 1 := ⟨j - 1, by omega⟩
            subst ei
            rw [show k + (i + 1) = k + 1 + i by omega]
            exact h3 i (by omega)
      | succ m ihm =>
        intro g f' hg h'
        have gl : g < gre q := by omega
        have dn := gm g gl
        have hf' : 1 ≤ k → ∃ a, a < 12 ∧ f' (k - 1) = nI a := fun h => by
          rw [h' (k - 1) (by omega)]
          have ⟨a, b, c, _⟩ := hf h
          exact ⟨a, b, c⟩
        refine try_n (d := d) (n := n) hX hq (by omega) (by omega) hf' (try_f ht hl n _ (k + 1) _ (isP_ga (by omega) hq) (by omega) (by omega) (fun _ => ⟨g, by omega, by rw [show k + 1 - 1 = k from rfl]; exact up_at⟩)) (fun f2 h2 => ihm (g + 1) f2 (by omega) (fun j hj => (h2 j hj).trans (h' j hj)))
    exact key (gre q) 0 f (by omega) (fun _ _ => rfl)
end LEC
