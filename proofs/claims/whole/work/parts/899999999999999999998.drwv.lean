/-! DIAGRAMS: drawing a circuit, the reference -/
section DRV
variable {d n c inp S : Nat} {N K : mm_M} {op : Nat → bk_X}
set_option maxRecDepth 100000 in
theorem dv_1 {v1 : Int32} {Pp : am_Q} {X : am_X} (hX : am_K d false nm_X12_diagram Pp X) (hK : ∀ f l2, (∀ j, j < 3600 → f j = 0) → X 45 [some (aR 108), some (aI v1), l2] [] (mm_i N 171 f)) : ∀ m i f, i + m = 3600 → (∀ j, j < i → f j = 0) → X 25 [some (aR 108), some (aI v1), some (aI (nI i))] [] (mm_i N 171 f) := by
  intro m
  induction m with
  | zero =>
    intro i f hi hf
    have hi : i = 3600 := by omega
    subst hi
    refine am_run hX 3 _ _ _ _ ?_
    conv => whnf
    exact ⟨fun _ => hK f _ hf, fun c => absurd (by decide) c⟩
  | succ m ih =>
    intro i f hi hf
    refine am_run hX 3 _ _ _ _ ?_
    conv => whnf
    refine ⟨fun c => absurd c (nI_ge (b := 3600) (by omega) (by decide)), fun _ => ?_⟩
    refine am_run hX 7 _ _ _ _ ?_
    conv => whnf
    refine ⟨vp_in_nI (by show i < 3600; omega) (by decide), ?_⟩
    conv => whnf
    rw [nI_clamp (n := i) (by omega), mi_two, nI_1, mm_i1]
    refine ih (i + 1) _ (by omega) fun j hj => ?_
    unfold upd
    by_cases e : j = i
    · rw [if_pos e]
    · rw [if_neg e]
      exact hf j (by omega)
set_option maxRecDepth 100000 in
theorem dv_2 {v1 : Int32} {q : Nat} {Pp : am_Q} {X : am_X} (hX : am_K d false nm_X12_diagram Pp X) (hq : q ≤ 60) (h100 : N.1 108 100 = nI q) (hK : ∀ f g l2, (∀ j, j < 60 → f j = if decide (j < q) = true then 1 else 0) → (∀ j, j < 60 → g j = 0) → X 110 [some (aR 108), some (aI v1), l2] [] (mm_i (mm_i N 169 f) 170 g)) : ∀ m i f g, i + m = 60 → (∀ j, j < i → f j = if decide (j < q) = true then 1 else 0) → (∀ j, j < i → g j = 0) → X 72 [some (aR 108), some (aI v1), some (aI (nI i))] [] (mm_i (mm_i N 169 f) 170 g) := by
  intro m
  induction m with
  | zero =>
    intro i f g hi hf hg
    have hi : i = 60 := by omega
    subst hi
    refine am_run hX 3 _ _ _ _ ?_
    conv => whnf
    exact ⟨fun _ => hK f g _ hf hg, fun c => absurd (by decide) c⟩
  | succ m ih =>
    intro i f g hi hf hg
    have hI : vp_in (nI i) 60 := vp_in_nI (by omega) (by decide)
    refine am_run hX 3 _ _ _ _ ?_
    conv => whnf
    refine ⟨fun c => absurd c (nI_ge (b := 60) (by omega) (by decide)), fun _ => ?_⟩
    have fin : ∀ v : Int32, v = (if decide (i < q) = true then 1 else 0) → X 96 [some (aR 108), some (aI v1), some (aI (nI i))] [aI v, aI (nI i), aR 169] (mm_i (mm_i N 169 f) 170 g) := fun v hv => by
      refine am_run hX 1 _ _ _ _ ?_
      conv => whnf
      refine ⟨hI, ?_⟩
      conv => whnf
      refine am_run hX 7 _ _ _ _ ?_
      conv => whnf
      refine ⟨hI, ?_⟩
      conv => whnf
      rw [nI_clamp (n := i) (by omega), nI_1]
      have ev : vp_nar (if (2 : Nat) = 2 then .boolean else .byte) v = v := by
        rw [hv]
        by_cases e : decide (i < q) = true
        · rw [if_pos e]; rfl
        · rw [if_neg e]; rfl
      rw [ev]
      have goal := ih (i + 1) (upd f i v) (upd g i 0) (by omega) (fun j hj => by
        unfold upd
        by_cases e : j = i
        · rw [if_pos e, e, hv]
        · rw [if_neg e]
          exact hf j (by omega)) (fun j hj => by
        unfold upd
        by_cases e : j = i
        · rw [if_pos e]
        · rw [if_neg e]
          exact hg j (by omega))
      have eq : mm_i (mm_i (mm_i (mm_i N 169 f) 170 g) 169 (upd ((mm_i (mm_i N 169 f) 170 g).1 169) i v)) 170 (upd ((mm_i (mm_i (mm_i N 169 f) 170 g) 169 (upd ((mm_i (mm_i N 169 f) 170 g).1 169) i v)).1 170) i 0) = mm_i (mm_i N 169 (upd f i v)) 170 (upd g i 0) := by
        rw [show (mm_i (mm_i N 169 f) 170 g).1 169 = f from rfl, show (mm_i (mm_i (mm_i N 169 f) 170 g) 169 (upd f i v)).1 170 = g from rfl, mm_ic _ 170 169 _ _ (by decide), mi_two, mi_two]
      rw [eq]
      exact goal
    refine am_run hX 7 _ _ _ _ ?_
    conv => whnf
    rw [show (mm_i (mm_i N 169 f) 170 g).1 108 100 = nI q from h100]
    by_cases k : i < q
    · refine ⟨fun c => absurd c (nI_ge k (by omega)), fun _ => ?_⟩
      refine am_run hX 2 _ _ _ _ ?_
      conv => whnf
      exact fin 1 (by rw [if_pos (decide_eq_true k)])
    · refine ⟨fun _ => ?_, fun c => absurd (nI_le (by omega) (by omega)) c⟩
      refine am_run hX 1 _ _ _ _ ?_
      conv => whnf
      exact fin 0 (by rw [if_neg (by rw [decide_eq_true_iff]; exact k)])
set_option maxRecDepth 100000 in
theorem dv_3 {v1 : Int32} {Pp : am_Q} {X : am_X} (hX : am_K d false nm_X12_diagram Pp X) (i4 : inp ≤ 4) (h99 : N.1 108 99 = nI inp) (hK : ∀ f g l2, (∀ w, w < inp → f w = nI w ∧ g w = 0) → X 140 [some (aR 108), some (aI v1), l2] [] (mm_i (mm_i N 172 f) 173 g)) : ∀ m i f g, i + m = inp → (∀ w, w < i → f w = nI w ∧ g w = 0) → X 112 [some (aR 108), some (aI v1), some (aI (nI i))] [] (mm_i (mm_i N 172 f) 173 g) := by
  intro m
  induction m with
  | zero =>
    intro i f g hi hf
    have hi : i = inp := by omega
    subst hi
    refine am_run hX 4 _ _ _ _ ?_
    conv => whnf
    rw [show (mm_i (mm_i N 172 f) 173 g).1 108 99 = nI i from h99]
    exact ⟨fun _ => hK f g _ hf, fun c => absurd (nI_le (by omega) (by omega)) c⟩
  | succ m ih =>
    intro i f g hi hf
    have hI : vp_in (nI i) 4 := vp_in_nI (by omega) (by decide)
    refine am_run hX 4 _ _ _ _ ?_
    conv => whnf
    rw [show (mm_i (mm_i N 172 f) 173 g).1 108 99 = nI inp from h99]
    refine ⟨fun c => absurd c (nI_ge (by omega) (by omega)), fun _ => ?_⟩
    refine am_run hX 5 _ _ _ _ ?_
    conv => whnf
    refine ⟨hI, ?_⟩
    conv => whnf
    refine am_run hX 7 _ _ _ _ ?_
    conv => whnf
    refine ⟨hI, ?_⟩
    conv => whnf
    rw [nI_clamp (n := i) (by omega), nI_1, bool0]
    have goal := ih (i + 1) (upd f i (nI i)) (upd g i 0) (by omega) (fun w hw => by
      unfold upd
      by_cases e : w = i
      · rw [if_pos e, if_pos e, e]
        exact ⟨rfl, rfl⟩
      · rw [if_neg e, if_neg e]
        exact hf w (by omega))
    have eq : mm_i (mm_i (mm_i (mm_i N 172 f) 173 g) 172 (upd ((mm_i (mm_i N 172 f) 173 g).1 172) i (nI i))) 173 (upd ((mm_i (mm_i (mm_i N 172 f) 173 g) 172 (upd ((mm_i (mm_i N 172 f) 173 g).1 172) i (nI i))).1 173) i 0) = mm_i (mm_i N 172 (upd f i (nI i))) 173 (upd g i 0) := by
      rw [show (mm_i (mm_i N 172 f) 173 g).1 172 = f from rfl, show (mm_i (mm_i (mm_i N 172 f) 173 g) 172 (upd f i (nI i))).1 173 = g from rfl, mm_ic _ 173 172 _ _ (by decide), mi_two, mi_two]
    rw [eq]
    exact goal
/-- the circuits stay, the reference -/
theorem cir_dr {N N' : mm_M} (hf : drF N N') (h : cir N n c inp S op) : cir N' n c inp S op := by
  have e : ∀ k, k ≠ 108 → (k < 169 ∨ 173 < k) → N'.1 k = N.1 k := hf.1
  exact cir_e h (e 9 (by decide) (by decide)) (e 10 (by decide) (by decide)) (e 11 (by decide) (by decide)) (e 12 (by decide) (by decide)) (hf.2.1 6 (by decide)) fun k a b => e k (by omega) (by omega)
set_option maxRecDepth 100000 in
theorem dv_4 {Pp : am_Q} {X : am_X} (hX : am_K (d + 4) false nm_X12_diagram Pp X) (h : cir K n c inp S op) (i4 : inp ≤ 4) (ok : ∀ j, j < S → dOK (op j)) (hm : 2 * inp + dsm op S ≤ 60) (hK : ∀ N l2, drF K N → drR N inp (drN (dr0 inp) op S) → X 173 [some (aR 108), some (aI (nI c)), l2] [] N) : ∀ m i N, i + m = S → drF K N → drR N inp (drN (dr0 inp) op i) → X 146 [some (aR 108), some (aI (nI c)), some (aI (nI (300 * c + i)))] [] N := by
  have hc20 := h.1.1
  have hcc := h.2.1
  have h1 := h.2.2.1.1
  have s300 := h.2.2.1.2.2.1
  intro m
  induction m with
  | zero =>
    intro i N hi hf hd
    have hi : i = S := by omega
    subst hi
    have h' := cir_dr hf h
    refine am_run hX 10 _ _ _ _ ?_
    conv => whnf
    refine ⟨vp_in_nI (by show c < 21; omega) (by decide), ?_⟩
    conv => whnf
    rw [nI_clamp (n := c) (by omega), h'.2.2.1.2.2.2.2.2.2.1, show (300 : Int32) = nI 300 from rfl, nI_mul, nI_add]
    exact ⟨fun _ => hK N _ hf hd, fun c => absurd (nI_le (by omega) (by omega)) c⟩
  | succ m ih =>
    intro i N hi hf hd
    have h' := cir_dr hf h
    obtain ⟨hbk, _, hbc, hops, _⟩ := h'
    obtain ⟨a1, a2⟩ := drN_I h1 i4 (fun j hj => (h.2.2.2.1 j hj).1) ok hm i (by omega)
    have mm := dsm_m (op := op) (i + 1) (S - (i + 1))
    rw [show i + 1 + (S - (i + 1)) = S by omega] at mm
    have e : dsm op (i + 1) = dsm op i + dcn (op i) := rfl
    obtain ⟨og, bo⟩ := hops i (by omega)
    refine am_run hX 10 _ _ _ _ ?_
    conv => whnf
    refine ⟨vp_in_nI (by show c < 21; omega) (by decide), ?_⟩
    conv => whnf
    rw [nI_clamp (n := c) (by omega), hbc.2.2.2.2.2.2.1, show (300 : Int32) = nI 300 from rfl, nI_mul, nI_add]
    refine ⟨fun c => absurd c (nI_ge (by omega) (by omega)), fun _ => ?_⟩
    refine am_run hX 3 _ _ _ _ ?_
    conv => whnf
    refine am_cq (ct_dR (d := d) (a := 300 * c + i) (by omega) ⟨bo.2.1, bo.2.2.1, bo.2.2.2.1, bo.2.2.2.2.1⟩ hd a1 og (ok i (by omega)) (by omega)) ?_
    rintro r N1 ⟨rfl, f1, h1⟩
    refine ⟨_, rfl, ?_⟩
    conv => whnf
    refine am_run hX 2 _ _ _ _ ?_
    conv => whnf
    rw [nI_1]
    exact ih (i + 1) N1 (by omega) (drF_t hf f1) h1
set_option maxRecDepth 100000 in
theorem dv_5 {σ : DR} {v1 : Int32} {Pp : am_Q} {X : am_X} (hX : am_K (d + 1) false nm_X12_diagram Pp X) (hi : drI inp σ) (h0 : drR K inp σ) (hP : ∀ N l2, (∃ f, N = mm_i K 171 f) → rwD N inp (fnS inp σ inp).2.1 → X 219 [some (aR 108), some (aI v1), l2] [] N) : ∀ m i f, i + m = inp → rwD (mm_i K 171 f) inp (fnS inp σ i).2.1 → X 175 [some (aR 108), some (aI v1), some (aI (nI i))] [] (mm_i K 171 f) := by
  have i4 := hi.1.2.2.1
  have k16 := hi.2.2.2.2.2
  intro m
  induction m with
  | zero =>
    intro i f him hc
    have him : i = inp := by omega
    subst him
    refine am_run hX 4 _ _ _ _ ?_
    conv => whnf
    rw [hc.1]
    exact ⟨fun _ => hP _ _ ⟨f, rfl⟩ hc, fun c => absurd (nI_le (by omega) (by omega)) c⟩
  | succ m ih =>
    intro i f him hc
    have ll := dr_l hi (show i < inp by omega)
    have m2 := hi.1.2.1
    have m60 := hi.1.1
    have hI : vp_in (nI i) 4 := vp_in_nI (by omega) (by decide)
    obtain ⟨e1, e2⟩ := h0.2.2.2 i (by omega)
    refine am_run hX 4 _ _ _ _ ?_
    conv => whnf
    rw [hc.1]
    refine ⟨fun c => absurd c (nI_ge (by omega) (by omega)), fun _ => ?_⟩
    have fin : ∀ v, v = kb σ.2.2.2 i + 1 → X 210 [some (aR 108), some (aI v1), some (aI (nI i))] [aI (nI v), aI (nI (σ.2.2.1 i)), aI (nI (inp + i)), aR 108] (mm_i K 171 f) := fun v hv => by
      have hs := rwD_se (a := inp + i) (b := σ.2.2.1 i) (v := v) hc (by omega) (by omega)
      refine am_run hX 1 _ _ _ _ ?_
      conv => whnf
      refine am_c0 (ct_seR0 (d := d) (a := inp + i) (b := σ.2.2.1 i) (v := v) (by omega) (by omega)) ?_
      conv => whnf
      refine am_run hX 2 _ _ _ _ ?_
      conv => whnf
      rw [nI_1]
      have goal := ih (i + 1) (upd (upd f (60 * (inp + i) + σ.2.2.1 i) (nI v)) (60 * σ.2.2.1 i + (inp + i)) (nI v)) (by omega)
      have eq : seR (mm_i K 171 f) (inp + i) (σ.2.2.1 i) v = mm_i K 171 (upd (upd f (60 * (inp + i) + σ.2.2.1 i) (nI v)) (60 * σ.2.2.1 i + (inp + i)) (nI v)) := by
        unfold seR
        rw [mi_two, mm_i1]
      rw [eq] at hs ⊢
      refine goal ?_
      subst hv
      exact hs
    refine am_run hX 9 _ _ _ _ ?_
    conv => whnf
    refine ⟨hI, ?_⟩
    conv => whnf
    rw [nI_clamp (n := i) (by omega), show (mm_i K 171 f).1 172 i = nI (σ.2.2.1 i) from e1, hc.1, nI_add]
    refine am_run hX 5 _ _ _ _ ?_
    conv => whnf
    refine ⟨hI, ?_⟩
    conv => whnf
    rw [nI_clamp (n := i) (by omega), show (mm_i K 171 f).1 173 i = nI (kb σ.2.2.2 i) from e2]
    rcases (by have := kb_2 (k := σ.2.2.2) (w := i); omega : kb σ.2.2.2 i = 0 ∨ kb σ.2.2.2 i = 1) with e | e
    · rw [e]
      refine ⟨fun _ => ?_, fun c => absurd rfl c⟩
      refine am_run hX 1 _ _ _ _ ?_
      conv => whnf
      exact fin 1 (by rw [e])
    · rw [e]
      refine ⟨fun c => absurd c (by decide), fun _ => ?_⟩
      refine am_run hX 2 _ _ _ _ ?_
      conv => whnf
      exact fin 2 (by rw [e])
end DRV
