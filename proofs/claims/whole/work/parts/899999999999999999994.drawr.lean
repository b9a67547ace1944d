/-! DIAGRAMS: drawing a circuit, the class -/
def dwF (N N' : mm_M) : Prop := (∀ k, k ≠ 39 → k ≠ 42 → k ≠ 43 → N'.1 k = N.1 k) ∧ (∀ k, k ≠ 39 → k ≠ 40 → k ≠ 41 → N'.2 k = N.2 k) ∧ (∀ j, (j < 6 ∨ 9 < j) → N'.1 39 j = N.1 39 j) ∧ ∀ j, j ≠ 10 → N'.2 39 j = N.2 39 j
theorem dwF_t {M N K : mm_M} (h : dwF M N) (h' : dwF N K) : dwF M K := ⟨fun k a b c => (h'.1 k a b c).trans (h.1 k a b c), fun k a b c => (h'.2.1 k a b c).trans (h.2.1 k a b c), fun j a => (h'.2.2.1 j a).trans (h.2.2.1 j a), fun j a => (h'.2.2.2 j a).trans (h.2.2.2 j a)⟩
theorem dwF_c {N N' : mm_M} (h : dcF N N') : dwF N N' := ⟨h.1, h.2.1, fun j a => h.2.2.1 j (by omega) (by omega), h.2.2.2⟩
/-- the first SPIDERS -/
def bare (i : Nat) : WB := (fun x => decide (x < i), fun _ => 0, fun _ _ => 0)
theorem ad_bare (i : Nat) : adW (bare i) i 0 = bare (i + 1) := by
  unfold adW bare
  refine Prod.ext (funext fun x => ?_) (Prod.ext (funext fun x => ite_self _) rfl)
  show (if x = i then true else decide (x < i)) = decide (x < i + 1)
  by_cases e : x = i
  · rw [if_pos e, decide_eq_true (by omega)]
  · rw [if_neg e]
    by_cases h : x < i
    · rw [decide_eq_true h, decide_eq_true (by omega)]
    · rw [decide_eq_false h, decide_eq_false (by omega)]
section DRR
variable {d n c inp S : Nat} {N K : mm_M} {op : Nat → bk_X}
set_option maxRecDepth 100000 in
theorem dl_1 {Pp : am_Q} {X : am_X} (hX : am_K (d + 1) false nm_X10_draw Pp X) (i4 : inp ≤ 4) (hK : ∀ N l3, dcF K N → cwR N (2 * inp) inp (bare (2 * inp)) → N.1 39 8 = 0 → X 54 [some (aR 39), some (aR 9), some (aI (nI c)), l3] [] N) : ∀ m i N, i + m = 2 * inp → dcF K N → cwR N i inp (bare i) → N.1 39 8 = 0 → X 32 [some (aR 39), some (aR 9), some (aI (nI c)), some (aI (nI i))] [] N := by
  intro m
  induction m with
  | zero =>
    intro i N hi hf hc h8
    have hi : i = 2 * inp := by omega
    subst hi
    refine am_run hX 6 _ _ _ _ ?_
    conv => whnf
    rw [hc.2.1, show (2 : Int32) = nI 2 from rfl, nI_mul]
    exact ⟨fun _ => hK N _ hf hc h8, fun c => absurd (nI_le (by omega) (by omega)) c⟩
  | succ m ih =>
    intro i N hi hf hc h8
    refine am_run hX 6 _ _ _ _ ?_
    conv => whnf
    rw [hc.2.1, show (2 : Int32) = nI 2 from rfl, nI_mul]
    refine ⟨fun c => absurd c (nI_ge (by omega) (by omega)), fun _ => ?_⟩
    refine am_run hX 3 _ _ _ _ ?_
    conv => whnf
    refine am_c1 (ct_adS (d := d) (p := nI 0) hc.1 (by omega)) ?_
    conv => whnf
    refine am_run hX 3 _ _ _ _ ?_
    conv => whnf
    rw [nI_1]
    refine ih (i + 1) _ (by omega) (dcF_t hf dcF_ad) ?_ h8
    rw [← ad_bare i]
    exact cwR_ad hc (by omega) fun _ => rfl
set_option maxRecDepth 100000 in
theorem dl_2 {Pp : am_Q} {X : am_X} (hX : am_K d false nm_X10_draw Pp X) (i4 : inp ≤ 4) (h7 : N.1 39 7 = nI inp) (hK : ∀ f l3, (∀ w, w < inp → f w = nI w) → X 77 [some (aR 39), some (aR 9), some (aI (nI c)), l3] [] (mm_i N 43 f)) : ∀ m i f, i + m = inp → (∀ w, w < i → f w = nI w) → X 56 [some (aR 39), some (aR 9), some (aI (nI c)), some (aI (nI i))] [] (mm_i N 43 f) := by
  intro m
  induction m with
  | zero =>
    intro i f hi hf
    have hi : i = inp := by omega
    subst hi
    refine am_run hX 4 _ _ _ _ ?_
    conv => whnf
    rw [show (mm_i N 43 f).1 39 7 = nI i from h7]
    exact ⟨fun _ => hK f _ hf, fun c => absurd (nI_le (by omega) (by omega)) c⟩
  | succ m ih =>
    intro i f hi hf
    refine am_run hX 4 _ _ _ _ ?_
    conv => whnf
    rw [show (mm_i N 43 f).1 39 7 = nI inp from h7]
    refine ⟨fun c => absurd c (nI_ge (by omega) (by omega)), fun _ => ?_⟩
    refine am_run hX 7 _ _ _ _ ?_
    conv => whnf
    refine ⟨vp_in_nI (by show i < 4; omega) (by decide), ?_⟩
    conv => whnf
    rw [nI_clamp (n := i) (by omega), mi_two, nI_1, mm_i1]
    refine ih (i + 1) _ (by omega) fun w hw => ?_
    unfold upd
    by_cases e : w = i
    · rw [if_pos e, e]
    · rw [if_neg e]
      exact hf w (by omega)
set_option maxRecDepth 100000 in
theorem dl_3 {Pp : am_Q} {X : am_X} (hX : am_K (d + 4) false nm_X10_draw Pp X) (h : cir K n c inp S op) (i4 : inp ≤ 4) (ok : ∀ j, j < S → dOK (op j)) (hm : 2 * inp + dsm op S ≤ 60) (hK : ∀ N l3, dcF K N → drC N inp (drN (dr0 inp) op S) → X 105 [some (aR 39), some (aR 9), some (aI (nI c)), l3] [] N) : ∀ m i N, i + m = S → dcF K N → drC N inp (drN (dr0 inp) op i) → X 79 [some (aR 39), some (aR 9), some (aI (nI c)), some (aI (nI i))] [] N := by
  have hc20 := h.1.1
  have hcc := h.2.1
  have h1 := h.2.2.1.1
  have s300 := h.2.2.1.2.2.1
  intro m
  induction m with
  | zero =>
    intro i N hi hf hd
    have hi : i = S := by omega
    subst hi
    have h' := cir_dc hf h
    refine am_run hX 6 _ _ _ _ ?_
    conv => whnf
    refine ⟨vp_in_nI (by show c < 20; omega) (by decide), ?_⟩
    conv => whnf
    rw [nI_clamp (n := c) (by omega), h'.2.2.1.2.2.2.2.2.1]
    exact ⟨fun _ => hK N _ hf hd, fun c => absurd (nI_le (by omega) (by omega)) c⟩
  | succ m ih =>
    intro i N hi hf hd
    have h' := cir_dc hf h
    obtain ⟨hbk, _, hbc, hops, _⟩ := h'
    obtain ⟨a1, a2⟩ := drN_I h1 i4 (fun j hj => (h.2.2.2.1 j hj).1) ok hm i (by omega)
    have mm := dsm_m (op := op) (i + 1) (S - (i + 1))
    rw [show i + 1 + (S - (i + 1)) = S by omega] at mm
    have e : dsm op (i + 1) = dsm op i + dcn (op i) := rfl
    refine am_run hX 6 _ _ _ _ ?_
    conv => whnf
    refine ⟨vp_in_nI (by show c < 20; omega) (by decide), ?_⟩
    conv => whnf
    rw [nI_clamp (n := c) (by omega), hbc.2.2.2.2.2.1]
    refine ⟨fun c => absurd c (nI_ge (by omega) (by omega)), fun _ => ?_⟩
    refine am_run hX 5 _ _ _ _ ?_
    conv => whnf
    refine am_c1 (bk_at (d := d + 1) hbk hcc hbc (by omega)) ?_
    rw [(hops i (by omega)).2.1]
    conv => whnf
    refine am_run hX 1 _ _ _ _ ?_
    conv => whnf
    refine am_cq (ct_dOp (d := d) hd a1 (hops i (by omega)).1 (ok i (by omega)) (by omega)) ?_
    rintro r N1 ⟨rfl, f1, h1⟩
    refine ⟨_, rfl, ?_⟩
    conv => whnf
    refine am_run hX 2 _ _ _ _ ?_
    conv => whnf
    rw [nI_1]
    exact ih (i + 1) N1 (by omega) (dcF_t hf f1) h1
set_option maxRecDepth 100000 in
theorem dl_4 {σ : DR} {Pp : am_Q} {X : am_X} (hX : am_K (d + 2) false nm_X10_draw Pp X) (hi : drI inp σ) (h0 : drC K inp σ) (hP : ∀ N, cwK K N → cwR N σ.1 inp (fnS inp σ inp).2.1 → Pp (.inl none) N) : ∀ m i N, i + m = inp → cwK K N → cwR N σ.1 inp (fnS inp σ i).2.1 → X 107 [some (aR 39), some (aR 9), some (aI (nI c)), some (aI (nI i))] [] N := by
  have i4 := hi.1.2.2.1
  have k16 := hi.2.2.2.2.2
  intro m
  induction m with
  | zero =>
    intro i N him hf hc
    have him : i = inp := by omega
    subst him
    refine am_run hX 4 _ _ _ _ ?_
    conv => whnf
    rw [hc.2.1]
    refine ⟨fun _ => ?_, fun c => absurd (nI_le (by omega) (by omega)) c⟩
    refine am_run hX 1 _ _ _ _ ?_
    conv => whnf
    exact ⟨trivial, hP N hf hc⟩
  | succ m ih =>
    intro i N him hf hc
    have e43 : N.1 43 = K.1 43 := hf.1.1 43 (by decide) (by decide)
    have e8 : N.1 39 8 = nI σ.2.2.2 := by
      rw [hf.2]
      exact h0.2.2
    have F := fn_I hi i (by omega)
    obtain ⟨g, _, t, _, z⟩ := F
    have z0 := z i (Nat.le_refl _) (by omega)
    have ls := hi.2.2.1 i (by omega)
    have ll := dr_l hi (show i < inp by omega)
    have m2 := hi.1.2.1
    refine am_run hX 4 _ _ _ _ ?_
    conv => whnf
    rw [hc.2.1]
    refine ⟨fun c => absurd c (nI_ge (by omega) (by omega)), fun _ => ?_⟩
    refine am_run hX 16 _ _ _ _ ?_
    conv => whnf
    refine ⟨vp_in_nI (by show i < 4; omega) (by decide), ?_⟩
    conv => whnf
    rw [nI_clamp (n := i) (by omega), hc.2.1, nI_add, e43, h0.2.1 i (by omega), e8, kb_i k16 (by omega)]
    have jn := ct_jnC (d := d) (a := inp + i) (b := σ.2.2.1 i) (t := kb σ.2.2.2 i) hc g.1 (by rw [z0]; decide) (g.2.2.2.2.2.2.1 _ _) (by omega) (by omega) (by omega) kb_2
    rw [jn_0 (z0 _)] at jn
    have fin : X 144 [some (aR 39), some (aR 9), some (aI (nI c)), some (aI (nI i))] [aI (nI (kb σ.2.2.2 i)), aI (nI (σ.2.2.1 i)), aI (nI (inp + i)), aR 39] N := by
      refine am_run hX 1 _ _ _ _ ?_
      conv => whnf
      refine am_cq jn ?_
      rintro r N1 ⟨rfl, f1, h1⟩
      refine ⟨_, rfl, ?_⟩
      conv => whnf
      refine am_run hX 2 _ _ _ _ ?_
      conv => whnf
      rw [nI_1]
      exact ih (i + 1) N1 (by omega) (cwK_t hf f1) h1
    rcases (by have := kb_2 (k := σ.2.2.2) (w := i); omega : kb σ.2.2.2 i = 0 ∨ kb σ.2.2.2 i = 1) with e | e
    · rw [e] at fin ⊢
      refine ⟨fun _ => ?_, fun c => absurd rfl c⟩
      refine am_run hX 1 _ _ _ _ ?_
      conv => whnf
      exact fin
    · rw [e] at fin ⊢
      refine ⟨fun c => absurd c (by decide), fun _ => ?_⟩
      refine am_run hX 2 _ _ _ _ ?_
      conv => whnf
      exact fin
theorem cir_dw {N N' : mm_M} (hf : dwF N N') (h : cir N n c inp S op) : cir N' n c inp S op := by
  have e : ∀ k, k ≠ 39 → k ≠ 42 → k ≠ 43 → N'.1 k = N.1 k := hf.1
  exact cir_e h (e 9 (by decide) (by decide) (by decide)) (e 10 (by decide) (by decide) (by decide)) (e 11 (by decide) (by decide) (by decide)) (e 12 (by decide) (by decide) (by decide)) (by rw [e 108 (by decide) (by decide) (by decide)]) fun k a b => e k (by omega) (by omega) (by omega)
/-- what the class writes first -/
def dw0 (N : mm_M) (inp : Nat) : mm_M := mm_i (mm_i (mm_l (mm_i (mm_i N 39 (upd (N.1 39) 7 (nI inp))) 39 (upd (upd (N.1 39) 7 (nI inp)) 6 0)) 39 (vp_updL (N.2 39) 10 0)) 39 (upd (upd (upd (N.1 39) 7 (nI inp)) 6 0) 8 0)) 39 (upd (upd (upd (upd (N.1 39) 7 (nI inp)) 6 0) 8 0) 9 (-1))
theorem dw0_F : dwF N (dw0 N inp) := by
  refine ⟨fun k a b c => ?_, fun k a b c => ?_, fun j hj => ?_, fun j hj => ?_⟩
  · simp [dw0, mm_i, mm_l, a]
  · simp [dw0, mm_i, mm_l, a]
  · show upd (upd (upd (upd (N.1 39) 7 (nI inp)) 6 0) 8 0) 9 (-1) j = N.1 39 j
    unfold upd
    rw [if_neg (by omega), if_neg (by omega), if_neg (by omega), if_neg (by omega)]
  · show vp_updL (N.2 39) 10 0 j = N.2 39 j
    exact if_neg hj
set_option maxRecDepth 100000 in
theorem ct_drw (h : cir N n c inp S op) (i4 : inp ≤ 4) (ok : ∀ j, j < S → dOK (op j)) (hm : 2 * inp + dsm op S ≤ 60) : am_M (d + 5) false nm_X10_draw [aR 39, aR 9, aI (nI c)] N (fun r N' => r = .inl none ∧ dwF N N' ∧ N'.1 39 9 = -1 ∧ cwR N' (2 * inp + dsm op S) inp (fnS inp (drN (dr0 inp) op S) inp).2.1) := by
  have hc20 := h.1.1
  have hcc := h.2.1
  have h1 := h.2.2.1.1
  obtain ⟨a1, a2⟩ := drN_I h1 i4 (fun j hj => (h.2.2.2.1 j hj).1) ok hm S (Nat.le_refl _)
  refine ⟨rfl, rfl, rfl, fun X hX => am_run hX 20 _ _ _ _ ?_⟩
  conv => whnf
  refine ⟨vp_in_nI (by show c < 20; omega) (by decide), ?_⟩
  conv => whnf
  rw [nI_clamp (n := c) (by omega), h.2.2.1.2.2.2.1]
  have c0 : cwR (dw0 N inp) 0 inp (bare 0) := ⟨rfl, rfl, fun i hi => bit_0 i, fun i hi => absurd (of_decide_eq_true (p := i < 0) hi) (Nat.not_lt_zero _), fun i hi => absurd hi (Nat.not_lt_zero _)⟩
  refine dl_1 (d := d + 3) (K := dw0 N inp) hX i4 (fun N1 l3 f1 h1 h8 => ?_) (2 * inp) 0 (dw0 N inp) (by omega) (dcF_r _) c0 rfl
  refine am_run hX 2 _ _ _ _ ?_
  conv => whnf
  have k := dl_2 (d := d + 4) (N := N1) (c := c) hX i4 h1.2.1 (fun f l3 hf => ?_) inp 0 (N1.1 43) (by omega) (fun w hw => absurd hw (Nat.not_lt_zero _))
  · rw [mm_iz] at k
    exact k
  · refine am_run hX 2 _ _ _ _ ?_
    conv => whnf
    have f2 : dcF (dw0 N inp) (mm_i N1 43 f) := dcF_t f1 ⟨fun k a b c => if_neg c, fun _ _ _ _ => rfl, fun _ _ _ => rfl, fun _ _ => rfl⟩
    refine dl_3 (d := d) (K := mm_i N1 43 f) hX (cir_dc f2 (cir_dw dw0_F h)) i4 ok hm (fun N2 l3 f3 h3 => ?_) S 0 _ (by omega) (dcF_r _) ⟨h1, hf, h8⟩
    refine am_run hX 2 _ _ _ _ ?_
    conv => whnf
    refine dl_4 (d := d + 2) (K := N2) hX a1 h3 (fun N3 f4 h4 => ?_) inp 0 N2 (by omega) cwK_r h3.1
    have f5 := dcF_t f2 (dcF_t f3 (dcF_K f4))
    rw [a2] at h4
    refine ⟨rfl, dwF_t dw0_F (dwF_c f5), ?_, h4⟩
    rw [f5.2.2.1 9 (by decide) (by decide)]
    rfl
end DRR
