/-! THE PAIR reduce -/
section RED
variable {d m inp : Nat} {N M : mm_M} {W : WB}
theorem cnT_le {T T' : Nat → Bool} (h : ∀ x, T' x = true → T x = true) : ∀ n, cntN T' n ≤ cntN T n
  | 0 => Nat.le_refl _
  | n + 1 => by
    have ih := cnT_le h n
    cases ht : T' n with
    | true => rw [cnn_1 ht, cnn_1 (h n ht)]; omega
    | false =>
      rw [cnn_0 ht]
      cases h2 : T n with
      | true => rw [cnn_1 h2]; omega
      | false => rw [cnn_0 h2]; exact ih
theorem cn_lt {T T' : Nat → Bool} {a : Nat} (h : ∀ x, T' x = true → T x = true) (ha : T a = true) (ha' : T' a = false) : ∀ n, a < n → cntN T' n < cntN T n
  | 0, h0 => absurd h0 (Nat.not_lt_zero _)
  | n + 1, hn => by
    by_cases e : a = n
    · subst e
      have := cnT_le h a
      rw [cnn_0 ha', cnn_1 ha]
      omega
    · have ih := cn_lt h ha ha' n (by omega)
      cases ht : T' n with
      | true => rw [cnn_1 ht, cnn_1 (h n ht)]; omega
      | false =>
        rw [cnn_0 ht]
        cases h2 : T n with
        | true => rw [cnn_1 h2]; omega
        | false => rw [cnn_0 h2]; exact ih
theorem rm_T {a x : Nat} (h : (rmW W a).1 x = true) : W.1 x = true := by
  have h : (if x = a then false else W.1 x) = true := h
  by_cases e : x = a
  · rw [if_pos e] at h
    exact absurd h (by decide)
  · rw [if_neg e] at h
    exact h
theorem rm_a {a : Nat} : (rmW W a).1 a = false := by
  show (if a = a then false else W.1 a) = false
  rw [if_pos rfl]
theorem rl_T {k p q : Int32} {V : WB} (h : rlV inp m W k p q V) : ∃ a, W.1 a = true ∧ V.1 a = false ∧ ∀ x, V.1 x = true → W.1 x = true := by
  rcases h with ⟨e, a, b, e1, e2, y, rfl⟩ | ⟨e, a, c, x, e1, y, hn, rfl⟩ | ⟨e, a, e1, y, rfl⟩ | ⟨e, a, b, e1, e2, y, rfl⟩
  · refine ⟨b, y.2.1.1, ?_, fun x hx => ?_⟩
    · unfold fuW
      rw [fu_T]
      exact rm_a
    · unfold fuW at hx
      rw [fu_T] at hx
      exact rm_T hx
  · refine ⟨a, y.1.1, ?_, fun z hz => ?_⟩
    · unfold skW
      rw [jn_T]
      exact rm_a
    · unfold skW at hz
      rw [jn_T] at hz
      exact rm_T hz
  · refine ⟨a, y.1.1, ?_, fun z hz => ?_⟩
    · rw [cp_T]
      exact rm_a
    · rw [cp_T] at hz
      exact rm_T hz
  · refine ⟨b, y.1.2.1.1, rm_a, fun z hz => ?_⟩
    have hz : (rmW (rmW W a) b).1 z = true := hz
    exact rm_T (rm_T hz)
theorem fr_T {V : WB} (g : gdW m inp W) (h : frR inp m W V) : cntN V.1 60 < cntN W.1 60 := by
  obtain ⟨k, a, b, k1, k2, a1, b1, hv, _⟩ := h
  obtain ⟨x, h1, h2, h3⟩ := rl_T hv
  have := g.1
  have := g.2.2.2.2.1 x h1
  exact cn_lt h3 h1 h2 60 (by omega)
theorem cn_pos (g : gdW m inp W) : 1 ≤ cntN W.1 60 := by
  have t := g.2.2.2.2.2.1 0 (by have := g.2.2.2.1; omega)
  have := cn_lt (T := W.1) (T' := fun _ => false) (a := 0) (fun x h => absurd h (by decide)) t rfl 60 (by decide)
  omega
/-- so often a RULE is done, till none can be -/
def rdW (inp m : Nat) : Nat → WB → WB → Prop
  | 0, W, V => V = W ∧ noW inp W
  | n + 1, W, V => ∃ U, frR inp m W U ∧ rdW inp m n U V
theorem rd_u : ∀ n n' W V V', gdW m inp W → rdW inp m n W V → rdW inp m n' W V' → n = n' ∧ V = V'
  | 0, 0, _, _, _, _, h, h' => ⟨rfl, h.1.trans h'.1.symm⟩
  | 0, n' + 1, _, _, _, _, h, h' => by
    obtain ⟨U, hU, _⟩ := h'
    exact absurd h.2 fun z => fr_no hU z
  | n + 1, 0, _, _, _, _, h, h' => by
    obtain ⟨U, hU, _⟩ := h
    exact absurd h'.2 fun z => fr_no hU z
  | n + 1, n' + 1, W, V, V', g, h, h' => by
    obtain ⟨U, hU, h1⟩ := h
    obtain ⟨U', hU', h1'⟩ := h'
    have e := fr_u g hU hU'
    subst e
    obtain ⟨e1, e2⟩ := rd_u n n' U V V' (fr_gd g hU) h1 h1'
    exact ⟨by rw [e1], e2⟩
theorem rd_gd : ∀ n W V, gdW m inp W → rdW inp m n W V → gdW m inp V
  | 0, W, V, g, h => by
    rw [h.1]
    exact g
  | n + 1, W, V, g, h => by
    obtain ⟨U, hU, h1⟩ := h
    exact rd_gd n U V (fr_gd g hU) h1
set_option maxRecDepth 100000 in
theorem rdx_l {Pp : am_Q} {X : am_X} (hX : am_K (d + 6) false nm_X11_reduce Pp X) : ∀ c i N W, cntN W.1 60 ≤ c → i + c ≤ 60 → cwR N m inp W → gdW m inp W → (∀ n V N', rdW inp m n W V → cwF N N' → (N' = N ∨ N'.1 39 9 = -1) → cwR N' m inp V → i + n ≤ 60 → Pp (.inl (some (aI (nI (i + n))))) N') → X 14 [some (aR 0), some (aI (nI i))] [] N := by
  intro c
  induction c with
  | zero =>
    intro i N W hc _ _ g _
    have := cn_pos g
    omega
  | succ c ih =>
    intro i N W hc hi h g hP
    refine am_run hX 3 _ _ _ _ ?_
    conv => whnf
    refine ⟨fun z => absurd z (nI_ge (a := i) (b := 60) (by omega) (by decide)), fun _ => ?_⟩
    refine am_run hX 4 _ _ _ _ ?_
    conv => whnf
    refine am_cq (ct_dfC (d := d) h g) ?_
    rintro r N' (⟨no, rfl, rfl⟩ | ⟨V, hV, rfl, f1, f2, h'⟩)
    · refine ⟨_, rfl, ?_⟩
      conv => whnf
      refine ⟨fun _ => ?_, fun z => absurd rfl z⟩
      refine am_run hX 2 _ _ _ _ ?_
      conv => whnf
      exact ⟨trivial, hP 0 W N' ⟨rfl, no⟩ (cwF_r _) (Or.inl rfl) h (by omega)⟩
    · refine ⟨_, rfl, ?_⟩
      conv => whnf
      refine ⟨fun z => absurd z (by decide), fun _ => ?_⟩
      refine am_run hX 2 _ _ _ _ ?_
      conv => whnf
      rw [nI_1]
      have lt := fr_T g hV
      refine ih (i + 1) N' V (by omega) (by omega) h' (fr_gd g hV) fun n U N2 hn g1 g2 g3 g4 => ?_
      have key := hP (n + 1) U N2 ⟨V, hV, hn⟩ (cwF_t f1 g1) (g2.elim (fun e => Or.inr (by rw [e]; exact f2)) Or.inr) g3 (by omega)
      rw [show i + 1 + n = i + (n + 1) by omega]
      exact key
set_option maxRecDepth 100000 in
theorem rdm_l {Pp : am_Q} {X : am_X} (hX : am_K (d + 6) false nm_X12_reduce Pp X) : ∀ c i N W, cntN W.1 60 ≤ c → rwR N inp W → gdW m inp W → (∀ n V N', rdW inp m n W V → rwF N N' → rwR N' inp V → Pp (.inl (some (aI (nI (i + n))))) N') → X 16 [some (aR 108), some (aI (nI i))] [] N := by
  intro c
  induction c with
  | zero =>
    intro i N W hc _ g _
    have := cn_pos g
    omega
  | succ c ih =>
    intro i N W hc h g hP
    refine am_run hX 3 _ _ _ _ ?_
    conv => whnf
    refine am_cq (ct_dfR (d := d) (m := m) h g) ?_
    rintro r N' (⟨no, rfl, rfl⟩ | ⟨V, hV, rfl, f1, h'⟩)
    · refine ⟨_, rfl, ?_⟩
      conv => whnf
      refine ⟨fun _ => ?_, fun z => absurd rfl z⟩
      refine am_run hX 2 _ _ _ _ ?_
      conv => whnf
      exact ⟨trivial, hP 0 W N' ⟨rfl, no⟩ (rwF_r _) h⟩
    · refine ⟨_, rfl, ?_⟩
      conv => whnf
      refine ⟨fun z => absurd z (by decide), fun _ => ?_⟩
      refine am_run hX 2 _ _ _ _ ?_
      conv => whnf
      rw [nI_1]
      have lt := fr_T g hV
      refine ih (i + 1) N' V (by omega) h' (fr_gd g hV) fun n U N2 hn g1 g3 => ?_
      have key := hP (n + 1) U N2 ⟨V, hV, hn⟩ (rwF_t f1 g1) g3
      rw [show i + 1 + n = i + (n + 1) by omega]
      exact key
set_option maxRecDepth 100000 in
theorem rdx_1 (h1 : 1 ≤ m) (h : cwR N m inp W) (g : gdW m inp W) : am_M (d + 7) false nm_X11_reduce [aR 0] N (fun r N' => ∃ n V, rdW inp m n W V ∧ r = .inl (some (aI (nI n))) ∧ cwF N N' ∧ (N' = N ∨ N'.1 39 9 = -1) ∧ cwR N' m inp V) := by
  have m60 := g.1
  refine ⟨rfl, rfl, rfl, fun X hX => am_run hX 4 _ _ _ _ ?_⟩
  conv => whnf
  rw [h.1]
  refine ⟨fun _ => ?_, fun c => absurd (nI_ne0 (by omega) (by omega)) c⟩
  refine am_run hX 2 _ _ _ _ ?_
  conv => whnf
  refine rdx_l (d := d) hX 60 0 N W (cnt_le _ _) (by omega) h g fun n V N' a1 a2 a3 a4 _ => ?_
  rw [Nat.zero_add]
  exact ⟨n, V, a1, rfl, a2, a3, a4⟩
set_option maxRecDepth 100000 in
theorem rdx_0 (h : M.1 39 6 = 0) : am_M (d + 1) false nm_X11_reduce [aR 0] M (am_q1 (aI (-1)) M) := by
  refine ⟨rfl, rfl, rfl, fun X hX => am_run hX 8 _ _ _ _ ?_⟩
  conv => whnf
  rw [h]
  refine ⟨fun c => absurd rfl c, fun _ => ?_⟩
  conv => whnf
  exact ⟨trivial, rfl, rfl⟩
set_option maxRecDepth 100000 in
theorem rdm_1 (h : rwR N inp W) (g : gdW m inp W) : am_M (d + 7) false nm_X12_reduce [aR 108] N (fun r N' => ∃ n V, rdW inp m n W V ∧ r = .inl (some (aI (nI n))) ∧ rwF (th0 N) N' ∧ rwR N' inp V) := by
  refine ⟨rfl, rfl, rfl, fun X hX => am_run hX 6 _ _ _ _ ?_⟩
  conv => whnf
  rw [show (mm_i N 108 (upd (N.1 108) 0 0)).1 108 98 = 1 from h.1]
  refine ⟨fun _ => ?_, fun c => absurd (by decide) c⟩
  refine am_run hX 2 _ _ _ _ ?_
  conv => whnf
  refine rdm_l (d := d) hX 60 0 (th0 N) W (cnt_le _ _) (rwR_th h) g fun n V N' a1 a2 a3 => ?_
  rw [Nat.zero_add]
  exact ⟨n, V, a1, rfl, a2, a3⟩
set_option maxRecDepth 100000 in
theorem rdm_0 (h : M.1 108 98 = 0) : am_M (d + 1) false nm_X12_reduce [aR 108] M (am_q1 (aI (-1)) (th0 M)) := by
  refine ⟨rfl, rfl, rfl, fun X hX => am_run hX 10 _ _ _ _ ?_⟩
  conv => whnf
  rw [show (mm_i M 108 (upd (M.1 108) 0 0)).1 108 98 = 0 from h]
  refine ⟨fun c => absurd rfl c, fun _ => ?_⟩
  conv => whnf
  exact ⟨trivial, rfl, rfl⟩
end RED
section RDP
variable {ac : Nat → ClassId} {lo : Nat} {ad as : Nat → Nat} {b L : Nat} {xs : Nat → Int32} {hp : mm_M → Nat → xm_H} {I J : mm_M → Prop}
theorem pr_reduce (H : mm_L ac lo hp) (h1 : ∀ M, I M → wvI M) (hJ : ∀ M N M', I M → cwF M N → (N = M ∨ N.1 39 9 = -1) → rwF (th0 N) M' → wvI M' → J M') : la_I ac lo ad as b L xs hp I J nm_X11_reduce nm_X12_reduce [] := by
  refine am_la_I (us := []) H fun M hI => ?_
  rcases h1 M hI with ⟨h6, h98⟩ | ⟨m, inp, W, hm, hc, hr, g⟩
  · refine am_wk (rdx_0 (d := 999) h6) fun r M1 e => ⟨_, e.1, ?_⟩
    rw [e.2]
    exact am_wk (rdm_0 (d := 999) h98) fun r M2 e => ⟨e.1, by rw [e.2]; exact hJ M M _ hI (cwF_r M) (Or.inl rfl) (rwF_r _) (wvI_th (h1 M hI))⟩
  · refine am_wk (rdx_1 (d := 993) hm hc g) ?_
    rintro r M1 ⟨n, V, hn, rfl, f1, f2, hc'⟩
    have hr' := rwR_cw f1 hr
    refine ⟨_, rfl, am_wk (rdm_1 (d := 993) (m := m) hr' g) ?_⟩
    rintro r M2 ⟨n', V', hn', rfl, f3, hr2⟩
    obtain ⟨e1, e2⟩ := rd_u n n' W V V' g hn hn'
    subst e1
    subst e2
    exact ⟨rfl, hJ M M1 _ hI f1 f2 f3 (Or.inr ⟨m, inp, V, hm, cwR_rw f3 (cwR_th hc'), hr2, rd_gd n W V g hn⟩)⟩
end RDP
