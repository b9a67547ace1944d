/-! group: the class's small methods -/
def gqR (x : R4) (k : Nat) : Int := if k = 0 then x.1 else if k = 1 then x.2.1 else if k = 2 then x.2.2.1 else x.2.2.2
theorem rt_gq {M : mm_M} {i k : Nat} {x : R4} (h : rt_at M 20 i x) (hk : k < 4) : M.2 20 (4 * i + k) = lI (gqR x k) := by
  obtain ⟨a, b, c, e⟩ := h
  rcases (by omega : k = 0 ∨ k = 1 ∨ k = 2 ∨ k = 3) with rfl | rfl | rfl | rfl
  · exact a
  · exact b
  · exact c
  · exact e
theorem bd_gq {x : R4} (h : bd x) (k : Nat) : -2 ^ 61 ≤ gqR x k ∧ gqR x k ≤ 2 ^ 61 := by
  unfold gqR
  split
  · exact h.1
  · split
    · exact h.2.1
    · split
      · exact h.2.2.1
      · exact h.2.2.2
/-- a part is where a turn puts it -/
def mtB (a b : R4) (t p : Nat) : Bool := decide (gqR a ((p + 2 * t) % 8 % 4) = if (p + 2 * t) % 8 < 4 then gqR b p else -gqR b p)
theorem mt_t {a b : R4} : ∀ {t : Nat}, t < 4 → (allN (mtB a b t) 4 = true ↔ a = t8n (2 * t) b) := by
  intro t ht
  obtain ⟨a0, a1, a2, a3⟩ := a
  obtain ⟨b0, b1, b2, b3⟩ := b
  rw [all_iff]
  have key : (∀ i, i < 4 → mtB (a0, a1, a2, a3) (b0, b1, b2, b3) t i = true) ↔ (mtB (a0, a1, a2, a3) (b0, b1, b2, b3) t 0 = true ∧ mtB (a0, a1, a2, a3) (b0, b1, b2, b3) t 1 = true ∧ mtB (a0, a1, a2, a3) (b0, b1, b2, b3) t 2 = true ∧ mtB (a0, a1, a2, a3) (b0, b1, b2, b3) t 3 = true) := by
    constructor
    · intro h
      exact ⟨h 0 (by decide), h 1 (by decide), h 2 (by decide), h 3 (by decide)⟩
    · rintro ⟨h0, h1, h2, h3⟩ i hi
      rcases (by omega : i = 0 ∨ i = 1 ∨ i = 2 ∨ i = 3) with rfl | rfl | rfl | rfl
      · exact h0
      · exact h1
      · exact h2
      · exact h3
  rw [key]
  unfold mtB
  rw [decide_eq_true_eq, decide_eq_true_eq, decide_eq_true_eq, decide_eq_true_eq]
  rcases (by omega : t = 0 ∨ t = 1 ∨ t = 2 ∨ t = 3) with rfl | rfl | rfl | rfl
  · show (a0 = b0 ∧ a1 = b1 ∧ a2 = b2 ∧ a3 = b3) ↔ (a0, a1, a2, a3) = (b0, b1, b2, b3)
    simp only [Prod.mk.injEq]
  · show (a2 = b0 ∧ a3 = b1 ∧ a0 = -b2 ∧ a1 = -b3) ↔ (a0, a1, a2, a3) = (-b2, -b3, b0, b1)
    simp only [Prod.mk.injEq]
    omega
  · show (a0 = -b0 ∧ a1 = -b1 ∧ a2 = -b2 ∧ a3 = -b3) ↔ (a0, a1, a2, a3) = (-b0, -b1, -b2, -b3)
    simp only [Prod.mk.injEq]
  · show (a2 = -b0 ∧ a3 = -b1 ∧ a0 = b2 ∧ a1 = b3) ↔ (a0, a1, a2, a3) = (- -b2, - -b3, -b0, -b1)
    simp only [Prod.mk.injEq]
    omega
/-- how many quarters, from t on; 4: none -/
def quF (a b : R4) : Nat → Nat → Nat
  | 0, t => t
  | m + 1, t => if allN (mtB a b t) 4 = true then t else quF a b m (t + 1)
def quV (a b : R4) : Nat := quF a b 4 0
theorem quF_p (a b : R4) : ∀ m t, t ≤ quF a b m t ∧ quF a b m t ≤ t + m ∧ (quF a b m t < t + m → allN (mtB a b (quF a b m t)) 4 = true) ∧ ∀ i, t ≤ i → i < quF a b m t → allN (mtB a b i) 4 = false
  | 0, t => ⟨Nat.le_refl _, Nat.le_refl _, fun h => by have h : t < t + 0 := h; omega, fun i h1 h2 => by have h2 : i < t := h2; omega⟩
  | m + 1, t => by
    obtain ⟨h1, h2, h3, h4⟩ := quF_p a b m (t + 1)
    by_cases c : allN (mtB a b t) 4 = true
    · have e : quF a b (m + 1) t = t := if_pos c
      rw [e]
      exact ⟨Nat.le_refl _, by omega, fun _ => c, fun i a1 a2 => by omega⟩
    · have e : quF a b (m + 1) t = quF a b m (t + 1) := if_neg c
      rw [e]
      refine ⟨by omega, by omega, fun h => h3 (by omega), fun i a1 a2 => ?_⟩
      by_cases q : i = t
      · subst q
        exact Bool.eq_false_iff.mpr c
      · exact h4 i (by omega) a2
theorem quV_t {a b : R4} (h : quV a b < 4) : a = t8n (2 * quV a b) b := (mt_t h).mp ((quF_p a b 4 0).2.2.1 (by exact h))
theorem quV_n {a b : R4} (h : ¬ quV a b < 4) {t : Nat} (ht : t < 4) : ¬ a = t8n (2 * t) b := fun e => by
  have := (quF_p a b 4 0).2.2.2 t (Nat.zero_le _) (by show t < quV a b; omega)
  rw [(mt_t ht).mpr e] at this
  cases this
section GPC
variable {d : Nat} {M : mm_M}
set_option maxRecDepth 100000 in
theorem qt_p {P : am_Q} {X : am_X} {i j t : Nat} {a b : R4} (hX : am_K d false nm_X4_quartersOf P X) (hi : i < 256) (hj : j < 256) (ht : t < 4) (ha : rt_at M 20 i a) (hb : rt_at M 20 j b) (ba : bd a) (bb : bd b) (k1 : allN (mtB a b t) 4 = true → ∀ l5 l6 l7 l8, X 94 [some (aR 17), some (aI (nI (4 * i))), some (aI (nI (4 * j))), some (aI (nI t)), some (aI 1), l5, l6, l7, l8] [] M) (k0 : allN (mtB a b t) 4 = false → ∀ l5 l6 l7 l8, X 94 [some (aR 17), some (aI (nI (4 * i))), some (aI (nI (4 * j))), some (aI (nI t)), some (aI 0), l5, l6, l7, l8] [] M) : ∀ (m p : Nat) (l6 l7 l8 : Option am_V), p + m = 4 → allN (mtB a b t) p = true → X 13 [some (aR 17), some (aI (nI (4 * i))), some (aI (nI (4 * j))), some (aI (nI t)), some (aI 1), some (aI (nI p)), l6, l7, l8] [] M := by
  intro m
  induction m with
  | zero =>
    intro p l6 l7 l8 hp hall
    obtain rfl : p = 4 := by omega
    refine am_run hX 3 _ _ _ _ ?_
    conv => whnf
    exact ⟨fun _ => k1 hall _ _ _ _, fun c => absurd (by decide) c⟩
  | succ m ih =>
    intro p l6 l7 l8 hp hall
    have a1 := rt_gq ha (k := (p + 2 * t) % 8 % 4) (by omega)
    have b1 := rt_gq hb (k := p) (by omega)
    obtain ⟨ba1, ba2⟩ := bd_gq ba ((p + 2 * t) % 8 % 4)
    obtain ⟨bb1, bb2⟩ := bd_gq bb p
    refine am_run hX 3 _ _ _ _ ?_
    conv => whnf
    refine ⟨fun c => absurd c (nI_ge (a := p) (b := 4) (by omega) (by decide)), fun _ => ?_⟩
    refine am_run hX 2 _ _ _ _ ?_
    conv => whnf
    refine ⟨fun c => absurd c (by decide), fun _ => ?_⟩
    refine am_run hX 28 _ _ _ _ ?_
    conv => whnf
    rw [show (2 : Int32) = nI 2 from rfl, nI_mul, nI_add, nI_add, nI_m7]
    refine ⟨vp_in_nI (by show _ < 1024; omega) (by decide), ?_⟩
    conv => whnf
    rw [nI_m3, nI_add]
    refine ⟨vp_in_nI (by show _ < 1024; omega) (by decide), ?_⟩
    conv => whnf
    rw [nI_clamp (n := 4 * j + p) (by omega), nI_clamp (n := 4 * i + (p + 2 * t) % 8 % 4) (by omega), a1, b1]
    have hok : ∀ v : Int32, v = (if mtB a b t p = true then 1 else 0) → ∀ l6 l7 l8, X 86 [some (aR 17), some (aI (nI (4 * i))), some (aI (nI (4 * j))), some (aI (nI t)), some (aI 1), some (aI (nI p)), l6, l7, l8] [aI v] M := by
      intro v hv l6 l7 l8
      by_cases c : mtB a b t p = true
      · rw [if_pos c] at hv
        subst hv
        refine am_run hX 3 _ _ _ _ ?_
        conv => whnf
        rw [nI_1]
        refine ih (p + 1) _ _ _ (by omega) ?_
        show (allN (mtB a b t) p && mtB a b t p) = true
        rw [hall, c]
        rfl
      · rw [if_neg c] at hv
        subst hv
        have hf : allN (mtB a b t) 4 = false := all_f (i := p) (by omega) (Bool.eq_false_iff.mpr c)
        refine am_run hX 6 _ _ _ _ ?_
        conv => whnf
        refine ⟨fun _ => k0 hf _ _ _ _, fun _ => ?_⟩
        refine am_run hX 2 _ _ _ _ ?_
        conv => whnf
        exact ⟨fun _ => k0 hf _ _ _ _, fun c => absurd rfl c⟩
    refine ⟨fun c => ?_, fun c => ?_⟩
    · have hto : ¬ (p + 2 * t) % 8 < 4 := fun q => absurd c (nI_ge (a := (p + 2 * t) % 8) (b := 4) q (by decide))
      refine am_run hX 4 _ _ _ _ ?_
      conv => whnf
      rw [lI_neg, lg_0, lI_eq (by omega) (by omega) (by omega) (by omega)]
      refine ⟨fun q => ?_, fun q => ?_⟩
      · refine am_run hX 1 _ _ _ _ ?_
        conv => whnf
        refine hok 0 ?_ _ _ _
        rw [if_neg]
        unfold mtB
        rw [decide_eq_true_eq, if_neg hto]
        exact q
      · refine am_run hX 2 _ _ _ _ ?_
        conv => whnf
        refine hok 1 ?_ _ _ _
        rw [if_pos]
        unfold mtB
        rw [decide_eq_true_eq, if_neg hto]
        exact Classical.not_not.mp q
    · have hto : (p + 2 * t) % 8 < 4 := by
        apply Classical.byContradiction
        intro q
        exact c (nI_le (a := 4) (b := (p + 2 * t) % 8) (by omega) (by omega))
      refine am_run hX 4 _ _ _ _ ?_
      conv => whnf
      rw [lg_0, lI_eq (by omega) (by omega) (by omega) (by omega)]
      refine ⟨fun q => ?_, fun q => ?_⟩
      · refine am_run hX 1 _ _ _ _ ?_
        conv => whnf
        refine hok 0 ?_ _ _ _
        rw [if_neg]
        unfold mtB
        rw [decide_eq_true_eq, if_pos hto]
        exact q
      · refine am_run hX 2 _ _ _ _ ?_
        conv => whnf
        refine hok 1 ?_ _ _ _
        rw [if_pos]
        unfold mtB
        rw [decide_eq_true_eq, if_pos hto]
        exact Classical.not_not.mp q
set_option maxRecDepth 100000 in
theorem qt_t {P : am_Q} {X : am_X} {i j : Nat} {a b : R4} (hX : am_K d false nm_X4_quartersOf P X) (hi : i < 256) (hj : j < 256) (ha : rt_at M 20 i a) (hb : rt_at M 20 j b) (ba : bd a) (bb : bd b) : ∀ (m t : Nat) (l4 l5 l6 l7 l8 : Option am_V), t + m = 4 → P (.inl (some (aI (if quF a b m t < 4 then nI (quF a b m t) else -1)))) M → X 2 [some (aR 17), some (aI (nI (4 * i))), some (aI (nI (4 * j))), some (aI (nI t)), l4, l5, l6, l7, l8] [] M := by
  intro m
  induction m with
  | zero =>
    intro t l4 l5 l6 l7 l8 ht hP
    obtain rfl : t = 4 := by omega
    refine am_run hX 5 _ _ _ _ ?_
    conv => whnf
    refine ⟨fun _ => ?_, fun c => absurd (by decide) c⟩
    conv => whnf
    exact ⟨trivial, hP⟩
  | succ m ih =>
    intro t l4 l5 l6 l7 l8 ht hP
    refine am_run hX 3 _ _ _ _ ?_
    conv => whnf
    refine ⟨fun c => absurd c (nI_ge (a := t) (b := 4) (by omega) (by decide)), fun _ => ?_⟩
    refine am_run hX 4 _ _ _ _ ?_
    conv => whnf
    refine qt_p hX hi hj (by omega) ha hb ba bb (fun h l5 l6 l7 l8 => ?_) (fun h l5 l6 l7 l8 => ?_) 4 0 _ _ _ (by omega) rfl
    · have e : quF a b (m + 1) t = t := if_pos h
      rw [e, if_pos (by omega)] at hP
      refine am_run hX 2 _ _ _ _ ?_
      conv => whnf
      refine ⟨fun c => absurd c (by decide), fun _ => ?_⟩
      refine am_run hX 2 _ _ _ _ ?_
      conv => whnf
      exact ⟨trivial, hP⟩
    · have e : quF a b (m + 1) t = quF a b m (t + 1) := if_neg (by rw [h]; decide)
      rw [e] at hP
      refine am_run hX 2 _ _ _ _ ?_
      conv => whnf
      refine ⟨fun _ => ?_, fun c => absurd rfl c⟩
      refine am_run hX 2 _ _ _ _ ?_
      conv => whnf
      rw [nI_1]
      exact ih (t + 1) _ _ _ _ _ (by omega) hP
set_option maxRecDepth 100000 in
theorem ct_quarG {i j : Nat} {a b : R4} (hi : i < 256) (hj : j < 256) (ha : rt_at M 20 i a) (hb : rt_at M 20 j b) (ba : bd a) (bb : bd b) : am_M (d + 1) false nm_X4_quartersOf [aR 17, aI (nI (4 * i)), aI (nI (4 * j))] M (am_q1 (aI (if quV a b < 4 then nI (quV a b) else -1)) M) := by
  refine ⟨rfl, rfl, rfl, fun X hX => am_run hX 2 _ _ _ _ ?_⟩
  conv => whnf
  exact qt_t hX hi hj ha hb ba bb 4 0 _ _ _ _ _ (by omega) ⟨rfl, rfl⟩
/-- what the class has of the STATE -/
def gcS (N : mm_M) (w : Nat) (ys : Nat → R4) : Prop := w ≤ 8 ∧ N.1 18 2 = nI (2 ^ w) ∧ N.1 17 6 = nI w ∧ ∀ j, j < 2 ^ w → bd (ys j) ∧ rt_at N 20 j (ys j)
/-- the quarters that are set -/
def qiV (ys : Nat → R4) (x i : Nat) : Int32 := if ys i = (0, 0, 0, 0) then -1 else nI (quV (ys i) (ys (i ^^^ x)))
def cmO (ys : Nat → R4) (x i : Nat) : Prop := (ys i = (0, 0, 0, 0) ↔ ys (i ^^^ x) = (0, 0, 0, 0)) ∧ (¬ ys i = (0, 0, 0, 0) → quV (ys i) (ys (i ^^^ x)) < 4)
set_option maxRecDepth 100000 in
theorem cm_l {w x : Nat} {ys : Nat → R4} {P : am_Q} {X : am_X} (hX : am_K (d + 1) false nm_X4_compareMoved P X) (h : gcS M w ys) (hx : x < 2 ^ w) (k1 : ∀ f, (∀ i, i < 2 ^ w → f i = qiV ys x i ∧ cmO ys x i) → P (.inl (some (aI 1))) (mm_i M 23 f)) (k0 : ∀ f, (∃ i, i < 2 ^ w ∧ ¬ cmO ys x i) → P (.inl (some (aI 0))) (mm_i M 23 f)) : ∀ (m i : Nat) (f : Nat → Int32) (l3 : Option am_V), i + m = 2 ^ w → (∀ i', i' < i → f i' = qiV ys x i' ∧ cmO ys x i') → X 2 [some (aR 17), some (aI (nI x)), some (aI (nI i)), l3] [] (mm_i M 23 f) := by
  obtain ⟨w8, hs, h6, hst⟩ := h
  have h8 := w256 w8
  intro m
  induction m with
  | zero =>
    intro i f l3 hi hf
    obtain rfl : i = 2 ^ w := by omega
    refine am_run hX 7 _ _ _ _ ?_
    conv => whnf
    rw [show (mm_i M 23 f).1 18 2 = nI (2 ^ w) from hs]
    refine ⟨fun _ => ?_, fun c => absurd (nI_le (Nat.le_refl _) (by omega)) c⟩
    conv => whnf
    exact ⟨rfl, k1 f hf⟩
  | succ m ih =>
    intro i f l3 hi hf
    have hxi : i ^^^ x < 2 ^ w := xq_lt (by omega) hx
    obtain ⟨b1, r1⟩ := hst i (by omega)
    obtain ⟨b2, r2⟩ := hst (i ^^^ x) hxi
    have z1 := zb_iff (M := mm_i M 23 f) b1 r1
    have z2 := zb_iff (M := mm_i M 23 f) b2 r2
    refine am_run hX 5 _ _ _ _ ?_
    conv => whnf
    rw [show (mm_i M 23 f).1 18 2 = nI (2 ^ w) from hs]
    refine ⟨fun c => absurd c (nI_ge (by omega) (by omega)), fun _ => ?_⟩
    refine am_run hX 13 _ _ _ _ ?_
    conv => whnf
    refine am_c1 (ct_isz18 (d := d) (M := mm_i M 23 f) (i := i) (by omega)) ?_
    conv => whnf
    rw [nI_xor]
    refine am_c1 (ct_isz18 (d := d) (M := mm_i M 23 f) (i := i ^^^ x) (by omega)) ?_
    by_cases c1 : ys i = (0, 0, 0, 0)
    · rw [if_pos (z1.mpr c1)]
      by_cases c2 : ys (i ^^^ x) = (0, 0, 0, 0)
      · rw [if_pos (z2.mpr c2)]
        conv => whnf
        refine ⟨fun _ => ?_, fun c => absurd rfl c⟩
        refine am_run hX 5 _ _ _ _ ?_
        conv => whnf
        refine ⟨fun c => absurd c (by decide), fun _ => ?_⟩
        refine am_run hX 3 _ _ _ _ ?_
        conv => whnf
        refine ⟨vp_in_nI (by show i < 256; omega) (by decide), ?_⟩
        refine am_run hX 2 _ _ _ _ ?_
        conv => whnf
        refine ⟨fun _ => ?_, fun c => absurd (by decide) c⟩
        refine am_run hX 2 _ _ _ _ ?_
        conv => whnf
        rw [nI_clamp (n := i) (by omega), nI_1, mm_i1, mm_ii]
        refine ih (i + 1) _ _ (by omega) (fun i' hi' => ?_)
        by_cases e : i' = i
        · subst e
          refine ⟨?_, ⟨fun _ => c2, fun _ => c1⟩, fun q => absurd c1 q⟩
          rw [show upd f i' (-1) i' = -1 from if_pos rfl]
          unfold qiV
          rw [if_pos c1]
        · rw [show upd f i (-1) i' = f i' from if_neg e]
          exact hf i' (by omega)
      · rw [if_neg (fun q => c2 (z2.mp q))]
        conv => whnf
        refine ⟨fun c => absurd c (by decide), fun _ => ?_⟩
        refine am_run hX 2 _ _ _ _ ?_
        conv => whnf
        exact ⟨rfl, k0 f ⟨i, by omega, fun q => c2 (q.1.mp c1)⟩⟩
    · rw [if_neg (fun q => c1 (z1.mp q))]
      by_cases c2 : ys (i ^^^ x) = (0, 0, 0, 0)
      · rw [if_pos (z2.mpr c2)]
        conv => whnf
        refine ⟨fun c => absurd c (by decide), fun _ => ?_⟩
        refine am_run hX 2 _ _ _ _ ?_
        conv => whnf
        exact ⟨rfl, k0 f ⟨i, by omega, fun q => c1 (q.1.mpr c2)⟩⟩
      · rw [if_neg (fun q => c2 (z2.mp q))]
        conv => whnf
        refine ⟨fun _ => ?_, fun c => absurd rfl c⟩
        refine am_run hX 5 _ _ _ _ ?_
        conv => whnf
        refine ⟨fun _ => ?_, fun c => absurd rfl c⟩
        refine am_run hX 10 _ _ _ _ ?_
        conv => whnf
        rw [nI_xor, show (4 : Int32) = nI 4 from rfl, nI_mul, nI_mul]
        refine am_c1 (ct_quarG (d := d) (M := mm_i M 23 f) (i := i) (j := i ^^^ x) (by omega) (by omega) r1 r2 b1 b2) ?_
        refine am_run hX 1 _ _ _ _ ?_
        conv => whnf
        refine ⟨vp_in_nI (by show i < 256; omega) (by decide), ?_⟩
        refine am_run hX 2 _ _ _ _ ?_
        conv => whnf
        refine ⟨fun c => absurd c (by decide), fun _ => ?_⟩
        refine am_run hX 6 _ _ _ _ ?_
        conv => whnf
        refine ⟨vp_in_nI (by show i < 256; omega) (by decide), ?_⟩
        conv => whnf
        rw [nI_clamp (n := i) (by omega), mm_i1, mm_i1, mm_ii]
        have hv : upd f i (if quV (ys i) (ys (i ^^^ x)) < 4 then nI (quV (ys i) (ys (i ^^^ x))) else -1) i = (if quV (ys i) (ys (i ^^^ x)) < 4 then nI (quV (ys i) (ys (i ^^^ x))) else -1) := if_pos rfl
        rw [hv]
        by_cases cq : quV (ys i) (ys (i ^^^ x)) < 4
        · rw [if_pos cq]
          refine ⟨fun _ => ?_, fun c => absurd (nI_nm (by omega)) c⟩
          refine am_run hX 2 _ _ _ _ ?_
          conv => whnf
          rw [nI_1]
          refine ih (i + 1) _ _ (by omega) (fun i' hi' => ?_)
          by_cases e : i' = i
          · subst e
            refine ⟨?_, ⟨fun q => absurd q c1, fun q => absurd q c2⟩, fun _ => cq⟩
            rw [show upd f i' (nI (quV (ys i') (ys (i' ^^^ x)))) i' = nI (quV (ys i') (ys (i' ^^^ x))) from if_pos rfl]
            unfold qiV
            rw [if_neg c1]
          · rw [show upd f i (nI (quV (ys i) (ys (i ^^^ x)))) i' = f i' from if_neg e]
            exact hf i' (by omega)
        · rw [if_neg cq]
          refine ⟨fun c => absurd rfl c, fun _ => ?_⟩
          refine am_run hX 2 _ _ _ _ ?_
          conv => whnf
          exact ⟨rfl, k0 _ ⟨i, by omega, fun q => cq (q.2 c1)⟩⟩
set_option maxRecDepth 100000 in
theorem ct_cmpM {w x : Nat} {ys : Nat → R4} (h : gcS M w ys) (hx : x < 2 ^ w) : am_M (d + 2) false nm_X4_compareMoved [aR 17, aI (nI x)] M (fun r N => ∃ f, N = mm_i M 23 f ∧ ((r = .inl (some (aI 1)) ∧ ∀ i, i < 2 ^ w → f i = qiV ys x i ∧ cmO ys x i) ∨ (r = .inl (some (aI 0)) ∧ ∃ i, i < 2 ^ w ∧ ¬ cmO ys x i))) := by
  refine ⟨rfl, rfl, rfl, fun X hX => am_run hX 2 _ _ _ _ ?_⟩
  conv => whnf
  have key := cm_l (d := d) (M := M) hX h hx (fun f hf => ⟨f, rfl, Or.inl ⟨rfl, hf⟩⟩) (fun f hf => ⟨f, rfl, Or.inr ⟨rfl, hf⟩⟩) (2 ^ w) 0 (M.1 23) none (by omega) (fun i' hi' => absurd hi' (Nat.not_lt_zero _))
  rw [mm_iz] at key
  exact key
end GPC
