/-! the pair kin -/
/-- what kin answers -/
def kv (n g : Nat) (q : Int32) (v : Nat) : Prop := (q = 0 ∧ ∃ F : Nat → Bool, (∀ x, x < 32768 → (F x = true ↔ RC n g x)) ∧ v = cn F 32768) ∨ (q = 1 ∧ isLst (RC n g) v) ∨ (q = 2 ∧ isFew (RC n g) v)
theorem kv_u {n g : Nat} {q : Int32} {v v' : Nat} (h : kv n g q v) (h' : kv n g q v') : v = v' := by
  rcases h with ⟨e, F, hF, rfl⟩ | ⟨e, h⟩ | ⟨e, h⟩ <;> rcases h' with ⟨e', F', hF', rfl⟩ | ⟨e', h'⟩ | ⟨e', h'⟩
  · refine cn_c 32768 fun x hx => ?_
    rw [Bool.eq_iff_iff, hF x hx, hF' x hx]
  · rw [e] at e'; exact absurd e' (by decide)
  · rw [e] at e'; exact absurd e' (by decide)
  · rw [e] at e'; exact absurd e' (by decide)
  · exact isLst_u h h'
  · rw [e] at e'; exact absurd e' (by decide)
  · rw [e] at e'; exact absurd e' (by decide)
  · rw [e] at e'; exact absurd e' (by decide)
  · exact isFew_u h h'
theorem isLst_c {F G : Nat → Prop} (h : ∀ x, x < 32768 → (F x ↔ G x)) {v : Nat} (q : isLst F v) : isLst G v := ⟨q.1, (h v q.1).mp q.2.1, fun y hy g => q.2.2 y hy ((h y hy).mpr g)⟩
theorem isFew_c {F G : Nat → Prop} (h : ∀ x, x < 32768 → (F x ↔ G x)) {v : Nat} (q : isFew F v) : isFew G v := by
  obtain ⟨⟨x, x1, x2, x3⟩, h2⟩ := q
  exact ⟨⟨x, x1, (h x x1).mp x2, x3⟩, fun y hy g => h2 y hy ((h y hy).mpr g)⟩
theorem shn : ∀ n, n < 7 → (1 : Int32) <<< ((nI n * (nI n - 1) / 2) &&& 31) = nI (2 ^ (n * (n - 1) / 2)) := by decide +kernel
section KNP
variable {d : Nat} {M : mm_M} {n g : Nat} {q : Int32}
set_option maxRecDepth 100000 in
theorem kn_x1 (hn1 : 2 ≤ n) (hn : n ≤ 6) (hg : g < 2 ^ (n * (n - 1) / 2)) (q0 : ¬ q < 0) (q2 : q ≤ 2) : am_M (d + 5) false nm_X11_kin [aR 0, aI (nI n), aI (nI g), aI q] M (fun r M' => ∃ f h v, M' = mm_l (mm_l M 79 f) 80 h ∧ r = .inl (some (aI (nI v))) ∧ kv n g q v) := by
  have hm := m15 hn
  refine ⟨rfl, rfl, rfl, fun X hX => am_run hX 60 _ _ _ _ ?_⟩
  conv => whnf
  refine ⟨fun c => absurd c (nI_nlt (b := 2) hn1 (by omega)), fun _ => ?_⟩
  conv => whnf
  refine ⟨fun c => absurd c (nI_nlt (a := 6) hn (by decide)), fun _ => ?_⟩
  conv => whnf
  refine ⟨fun c => absurd c (nI_pos (by omega)), fun _ => ?_⟩
  conv => whnf
  refine ⟨by decide, ?_⟩
  conv => whnf
  rw [shn n (by omega)]
  refine ⟨fun c => absurd c (nI_ge hg (by omega)), fun _ => ?_⟩
  conv => whnf
  refine ⟨fun c => absurd c q0, fun _ => ?_⟩
  conv => whnf
  refine ⟨fun _ => ?_, fun c => absurd q2 c⟩
  conv => whnf
  refine am_cq (ct_find (d := d) (n := n) (g0 := g) (by omega) hn hg) ?_
  rintro r M' ⟨f, h, rfl, rfl, hF⟩
  refine ⟨_, rfl, ?_⟩
  have e79 : (mm_l (mm_l M 79 f) 80 h).2 79 = f := by rw [mm_lne _ _ _ _ (by decide), mm_l2]
  have hne : ∃ y, y < 32768 ∧ sb ((mm_l (mm_l M 79 f) 80 h).2 79) y = true := ⟨g, by omega, by rw [e79]; exact (hF g (by omega)).mpr (RC_0 n g)⟩
  conv => whnf
  refine ⟨fun hq => ?_, fun hq => ?_⟩
  · conv => whnf
    refine ⟨fun hq1 => ?_, fun hq1 => ?_⟩
    · conv => whnf
      refine am_cq (ct_fw (d := d + 2) hne) ?_
      rintro r M' ⟨rfl, v, rfl, hv⟩
      refine ⟨_, rfl, ?_⟩
      conv => whnf
      rw [e79] at hv
      refine ⟨trivial, f, h, v, rfl, rfl, Or.inr (Or.inr ⟨?_, isFew_c hF hv⟩)⟩
      obtain ⟨j, hj, rfl⟩ := nI_of q0
      have hj2 : j ≤ 2 := by
        apply Decidable.byContradiction
        intro hc
        exact nI_ge (a := 2) (b := j) (by omega) hj q2
      rcases (by omega : j = 0 ∨ j = 1 ∨ j = 2) with rfl | rfl | rfl
      · exact absurd rfl hq
      · exact absurd rfl hq1
      · rfl
    · conv => whnf
      refine am_cq (ct_lk (d := d + 2) hne) ?_
      rintro r M' ⟨rfl, v, rfl, hv⟩
      refine ⟨_, rfl, ?_⟩
      conv => whnf
      rw [e79] at hv
      exact ⟨trivial, f, h, v, rfl, rfl, Or.inr (Or.inl ⟨Decidable.byContradiction hq1, isLst_c hF hv⟩)⟩
  · conv => whnf
    exact ⟨trivial, f, h, _, rfl, rfl, Or.inl ⟨Decidable.byContradiction hq, sb f, hF, rfl⟩⟩
/-- what kin refuses -/
def kno (p1 p2 q : Int32) : Prop := (p1 < 2 ∨ 6 < p1) ∨ ∃ n, p1 = nI n ∧ 2 ≤ n ∧ n ≤ 6 ∧ ((p2 < 0 ∨ nI (2 ^ (n * (n - 1) / 2)) ≤ p2) ∨ q < 0 ∨ ¬ q ≤ 2)
theorem kn_sp (p1 p2 q : Int32) : kno p1 p2 q ∨ ∃ n g, p1 = nI n ∧ p2 = nI g ∧ 2 ≤ n ∧ n ≤ 6 ∧ g < 2 ^ (n * (n - 1) / 2) ∧ ¬ q < 0 ∧ q ≤ 2 := by
  by_cases h1 : p1 < 2 ∨ 6 < p1
  · exact Or.inl (Or.inl h1)
  · have h0 : ¬ p1 < 0 := fun c => h1 (Or.inl (Int32.lt_trans c (by decide)))
    obtain ⟨n, hn, rfl⟩ := nI_of h0
    have a2 : 2 ≤ n := by
      apply Decidable.byContradiction
      intro hc
      exact h1 (Or.inl (nI_lt (b := 2) (by omega) (by decide)))
    have a6 : n ≤ 6 := by
      apply Decidable.byContradiction
      intro hc
      exact h1 (Or.inr (nI_lt (a := 6) (by omega) hn))
    by_cases h2 : (p2 < 0 ∨ nI (2 ^ (n * (n - 1) / 2)) ≤ p2) ∨ q < 0 ∨ ¬ q ≤ 2
    · exact Or.inl (Or.inr ⟨n, rfl, a2, a6, h2⟩)
    · have b0 : ¬ p2 < 0 := fun c => h2 (Or.inl (Or.inl c))
      obtain ⟨g, hg, rfl⟩ := nI_of b0
      refine Or.inr ⟨n, g, rfl, rfl, a2, a6, ?_, fun c => h2 (Or.inr (Or.inl c)), Decidable.byContradiction fun c => h2 (Or.inr (Or.inr c))⟩
      apply Decidable.byContradiction
      intro hc
      exact h2 (Or.inl (Or.inr (nI_le (by omega) hg)))
set_option maxRecDepth 100000 in
theorem kn_x0 {p1 p2 : Int32} (h : kno p1 p2 q) : am_M (d + 1) false nm_X11_kin [aR 0, aI p1, aI p2, aI q] M (am_q1 (aI (-1)) M) := by
  refine ⟨rfl, rfl, rfl, fun X hX => am_run hX 60 _ _ _ _ ?_⟩
  conv => whnf
  refine ⟨fun c1 => ?_, fun c1 => ?_⟩
  · conv => whnf
    exact ⟨trivial, rfl, rfl⟩
  · conv => whnf
    refine ⟨fun c2 => ?_, fun c2 => ?_⟩
    · conv => whnf
      exact ⟨trivial, rfl, rfl⟩
    · rcases h with h | ⟨n, rfl, n2, n6, h⟩
      · rcases h with h | h
        · exact absurd h c1
        · exact absurd h c2
      · conv => whnf
        refine ⟨fun c3 => ?_, fun c3 => ?_⟩
        · conv => whnf
          exact ⟨trivial, rfl, rfl⟩
        · conv => whnf
          refine ⟨by decide, ?_⟩
          conv => whnf
          rw [shn n (by omega)]
          refine ⟨fun c4 => ?_, fun c4 => ?_⟩
          · conv => whnf
            exact ⟨trivial, rfl, rfl⟩
          · conv => whnf
            refine ⟨fun c5 => ?_, fun c5 => ?_⟩
            · conv => whnf
              exact ⟨trivial, rfl, rfl⟩
            · conv => whnf
              refine ⟨fun c6 => ?_, fun c6 => ?_⟩
              · rcases h with (h | h) | h | h
                · exact absurd h c3
                · exact absurd h c4
                · exact absurd h c5
                · exact absurd c6 h
              · conv => whnf
                exact ⟨trivial, rfl, rfl⟩
set_option maxRecDepth 100000 in
theorem kn_m0 {p1 p2 : Int32} (h : kno p1 p2 q) : am_M (d + 1) false nm_X12_kin [aR 108, aI p1, aI p2, aI q] M (am_q1 (aI (-1)) (th0 M)) := by
  refine ⟨rfl, rfl, rfl, fun X hX => am_run hX 60 _ _ _ _ ?_⟩
  conv => whnf
  refine ⟨fun c1 => ?_, fun c1 => ?_⟩
  · conv => whnf
    exact ⟨trivial, rfl, rfl⟩
  · conv => whnf
    refine ⟨fun c2 => ?_, fun c2 => ?_⟩
    · conv => whnf
      exact ⟨trivial, rfl, rfl⟩
    · rcases h with h | ⟨n, rfl, n2, n6, h⟩
      · rcases h with h | h
        · exact absurd h c1
        · exact absurd h c2
      · conv => whnf
        refine ⟨fun c3 => ?_, fun c3 => ?_⟩
        · conv => whnf
          exact ⟨trivial, rfl, rfl⟩
        · conv => whnf
          refine ⟨fun c4 => ?_, fun c4 => ?_⟩
          · conv => whnf
            refine ⟨by decide, ?_⟩
            conv => whnf
            refine ⟨fun c5 => ?_, fun c5 => ?_⟩
            · conv => whnf
              exact ⟨trivial, rfl, rfl⟩
            · conv => whnf
              rw [shn n (by omega)]
              refine ⟨fun c6 => ?_, fun c6 => ?_⟩
              · rcases h with (h | h) | h | h
                · exact absurd h c5
                · exact absurd c6 (Int32.not_lt.mpr h)
                · exact absurd h c3
                · exact absurd c4 h
              · conv => whnf
                exact ⟨trivial, rfl, rfl⟩
          · conv => whnf
            exact ⟨trivial, rfl, rfl⟩
set_option maxRecDepth 100000 in
theorem kn_m1 (hn1 : 2 ≤ n) (hn : n ≤ 6) (hg : g < 2 ^ (n * (n - 1) / 2)) (q0 : ¬ q < 0) (q2 : q ≤ 2) : am_M (d + 4) false nm_X12_kin [aR 108, aI (nI n), aI (nI g), aI q] M (fun r M' => ∃ a b v, M' = mm_i (mm_i (th0 M) 164 a) 165 b ∧ r = .inl (some (aI (nI v))) ∧ kv n g q v) := by
  have hm := m15 hn
  refine ⟨rfl, rfl, rfl, fun X hX => am_run hX 6 _ _ _ _ ?_⟩
  conv => whnf
  refine ⟨fun c => absurd c (nI_nlt (b := 2) hn1 (by omega)), fun _ => ?_⟩
  refine am_run hX 3 _ _ _ _ ?_
  conv => whnf
  refine ⟨fun c => absurd c (nI_nlt (a := 6) hn (by decide)), fun _ => ?_⟩
  refine am_run hX 2 _ _ _ _ ?_
  conv => whnf
  refine ⟨fun c => absurd c q0, fun _ => ?_⟩
  refine am_run hX 3 _ _ _ _ ?_
  conv => whnf
  refine ⟨fun _ => ?_, fun c => absurd q2 c⟩
  refine am_run hX 12 _ _ _ _ ?_
  conv => whnf
  refine ⟨by decide, ?_⟩
  conv => whnf
  rw [shn n (by omega)]
  refine ⟨fun c => absurd c (nI_pos (by omega)), fun _ => ?_⟩
  refine am_run hX 3 _ _ _ _ ?_
  conv => whnf
  refine ⟨fun _ => ?_, fun c => absurd (nI_lt hg (by omega)) c⟩
  refine am_run hX 2 _ _ _ _ ?_
  conv => whnf
  have key := rk_l0 (M := th0 M) (g0 := g) (n := n) (w3 := q) (N := 2 ^ (n * (n - 1) / 2)) hX hm (fun l5 => ?_) (2 ^ (n * (n - 1) / 2)) 0 (by omega)
  · have e : (fun j => if j < 0 then 0 else (th0 M).1 164 j) = (th0 M).1 164 := by
      funext j
      rw [if_neg (by omega)]
    rw [e, mm_iz] at key
    exact key
  · have hpg := pc15 (x := g) (by omega)
    refine am_run hX 19 _ _ _ _ ?_
    conv => whnf
    refine ⟨vp_in_nI (by show _ < 32768; omega) (by decide), ?_⟩
    conv => whnf
    refine ⟨vp_in_nI (n := 0) (N := 32768) (by decide) (by decide), ?_⟩
    conv => whnf
    rw [nI_clamp (n := g) (by omega), bool1]
    refine am_c1 (ct_count (d + 2) _ (by omega) _) ?_
    conv => whnf
    have eM : mm_i (mm_i (mm_i (th0 M) 164 fun j => if j < 2 ^ (n * (n - 1) / 2) then 0 else (th0 M).1 164 j) 164 (upd ((mm_i (th0 M) 164 fun j => if j < 2 ^ (n * (n - 1) / 2) then 0 else (th0 M).1 164 j).1 164) g 1)) 165 (upd ((mm_i (mm_i (th0 M) 164 fun j => if j < 2 ^ (n * (n - 1) / 2) then 0 else (th0 M).1 164 j) 164 (upd ((mm_i (th0 M) 164 fun j => if j < 2 ^ (n * (n - 1) / 2) then 0 else (th0 M).1 164 j).1 164) g 1)).1 165) (Int32.toNatClampNeg 0) (nI g)) = mm_i (mm_i (th0 M) 164 (upd (fun j => if j < 2 ^ (n * (n - 1) / 2) then 0 else (th0 M).1 164 j) g 1)) 165 (upd ((th0 M).1 165) 0 (nI g)) := by
      rw [mm_i1, mm_ii, mm_ne _ 164 165 _ (by decide)]
      rfl
    rw [eM]
    have hF : ∀ x, (x == g) = true ↔ x = g := fun x => by simp
    refine rk_l1 (M := th0 M) (g0 := g) (n := n) (w3 := q) (N := 2 ^ (n * (n - 1) / 2)) hX hn rfl (fun F a b k v6 v7 h l8 l9 l10 => ?_) 32768 0 (by omega) (fun x => x == g) _ _ 1 g (pc g) ⟨fun x hx => ?_, fun x hx => ?_, by simp, fun x q => ?_, fun j hj => ?_, fun x q => ?_, ?_, ⟨by omega, by simp, fun y _ q => by rw [(hF y).mp q]; exact Nat.le_refl _⟩, ⟨⟨g, by omega, by simp, rfl⟩, fun y _ q => by rw [(hF y).mp q]; exact Nat.le_refl _⟩, fun j hj => by omega⟩ (by omega) _ _
    · have hE := RS_end hn rfl h
      have h6 := isLst_c (G := RC n g) (fun x _ => hE x) h.2.2.2.2.2.2.2.1
      have h7 := isFew_c (G := RC n g) (fun x _ => hE x) h.2.2.2.2.2.2.2.2.1
      have hk := h.2.2.2.2.2.2.1
      refine am_run hX 10 _ _ _ _ ?_
      conv => whnf
      refine ⟨fun hq => ?_, fun hq => ?_⟩
      · conv => whnf
        refine ⟨fun hq1 => ?_, fun hq1 => ?_⟩
        · conv => whnf
          refine ⟨trivial, a, b, v7, rfl, rfl, Or.inr (Or.inr ⟨?_, h7⟩)⟩
          obtain ⟨j, hj, rfl⟩ := nI_of q0
          have hj2 : j ≤ 2 := by
            apply Decidable.byContradiction
            intro hc
            exact nI_ge (a := 2) (b := j) (by omega) hj q2
          rcases (by omega : j = 0 ∨ j = 1 ∨ j = 2) with rfl | rfl | rfl
          · exact absurd rfl hq
          · exact absurd rfl hq1
          · rfl
        · conv => whnf
          exact ⟨trivial, a, b, v6, rfl, rfl, Or.inr (Or.inl ⟨Decidable.byContradiction hq1, h6⟩)⟩
      · conv => whnf
        exact ⟨trivial, a, b, k, rfl, rfl, Or.inl ⟨Decidable.byContradiction hq, F, fun x _ => hE x, hk⟩⟩
    · have : ¬ x = g := by omega
      simp [this]
    · unfold upd
      by_cases e : x = g
      · simp [e]
      · rw [if_neg e]
        dsimp only
        rw [if_pos hx]
        have : (x == g) = false := by simp [e]
        simp [this]
    · rw [(hF x).mp q]; exact RC_0 n g
    · have : j = 0 := by omega
      subst this
      exact ⟨g, hg, by simp [upd], by simp⟩
    · exact ⟨0, by decide, by rw [(hF x).mp q]; simp [upd]⟩
    · have := cn_s (F := fun _ => false) (F' := fun x => x == g) (g := g) (fun x => by simp) rfl 32768
      rw [cn_0, if_pos (by omega)] at this
      exact this.symm
end KNP
section KNQ
variable {ac : Nat → ClassId} {lo : Nat} {ad as : Nat → Nat} {b L : Nat} {xs : Nat → Int32} {hp : mm_M → Nat → xm_H} {I J : mm_M → Prop}
theorem pr_kin (H : mm_L ac lo hp) (hJ0 : ∀ M, I M → J (th0 M)) (hJ : ∀ M f h a b, I M → J (mm_i (mm_i (th0 (mm_l (mm_l M 79 f) 80 h)) 164 a) 165 b)) (p1 p2 q : Int32) : la_I ac lo ad as b L xs hp I J nm_X11_kin nm_X12_kin [.int p1, .int p2, .int q] := by
  refine am_la_I (us := [aI p1, aI p2, aI q]) H fun M hI => ?_
  rcases kn_sp p1 p2 q with h | ⟨n, g, rfl, rfl, n2, n6, hg, q0, q2⟩
  · refine am_wk (kn_x0 (d := 999) h) fun r M1 e => ⟨-1, e.1, ?_⟩
    rw [e.2]
    exact am_wk (kn_m0 (d := 999) h) fun r M1 e => ⟨e.1, by rw [e.2]; exact hJ0 M hI⟩
  · refine am_wk (kn_x1 (d := 995) n2 n6 hg q0 q2) ?_
    rintro r M1 ⟨f, h, v, rfl, rfl, hv⟩
    refine ⟨_, rfl, am_wk (kn_m1 (d := 996) n2 n6 hg q0 q2) ?_⟩
    rintro r M2 ⟨a, b, v', rfl, rfl, hv'⟩
    exact ⟨by rw [kv_u hv hv'], hJ M f h a b hI⟩
end KNQ
