/-! the reference's distances: a queue -/
theorem dp_0 {p : Nat} (h : isP p) : dp p = 0 ↔ p = idN := by
  have ⟨q, r⟩ := h
  rw [dp_q r, dq_0 ⟨_, Rv_s r⟩]
  constructor
  · intro e
    rw [e] at r
    exact Rv_u (Rv_s r) Rv_id
  · intro e
    rw [e] at r
    exact Rv_u r Rv_id
theorem dp_up {p g : Nat} (h : isP p) (hg : g < 12) : dp (bhN p g) ≤ dp p + 1 := by
  have ⟨q, r⟩ := h
  rw [dp_q r, dp_q (Rv_g hg r)]
  exact dq_up ⟨_, Rv_s r⟩ hg
theorem dp_s {p : Nat} (h : isP p) (h0 : dp p ≠ 0) : ∃ g, g < 12 ∧ dp (bhN p g) + 1 = dp p := by
  have ⟨q, r⟩ := h
  rw [dp_q r] at h0 ⊢
  have ⟨g, hg, e⟩ := dq_s ⟨_, Rv_s r⟩ h0
  exact ⟨g, hg, by rw [dp_q (Rv_g hg r)]; exact e⟩
theorem dp_8 {p : Nat} (h : isP p) : dp p ≤ 8 := by
  have ⟨q, r⟩ := h
  rw [dp_q r]
  exact (dq_p ⟨_, Rv_s r⟩).1
theorem php : ∀ n t (f : Nat → Nat), (∀ i, i < t → f i < n) → (∀ i j, i < t → j < t → f i = f j → i = j) → t ≤ n
  | 0, t, f, h, _ => Nat.le_of_not_lt fun c => absurd (h 0 c) (by omega)
  | n + 1, t, f, h, hi => by
    by_cases e : ∃ i, i < t ∧ f i = n
    · have ⟨a, ha, ea⟩ := e
      have q := php n (t - 1) (fun i => f (if i < a then i else i + 1)) (fun i hl => by
        have b : (if i < a then i else i + 1) < t := by split <;> omega
        have ne : (if i < a then i else i + 1) ≠ a := by split <;> omega
        have l := h _ b
        have : f (if i < a then i else i + 1) ≠ n := fun c => ne (hi _ _ b ha (c.trans ea.symm))
        show f (if i < a then i else i + 1) < n
        omega) (fun i j hl hj e => by
        have b1 : (if i < a then i else i + 1) < t := by split <;> omega
        have b2 : (if j < a then j else j + 1) < t := by split <;> omega
        have c := hi _ _ b1 b2 e
        revert c
        split <;> split <;> omega)
      omega
    · have q := php n t f (fun i hl => by
        have l := h i hl
        have : f i ≠ n := fun c => e ⟨i, hl, c⟩
        omega) hi
      omega
def inq (L : Nat → Nat) (t p : Nat) : Prop := ∃ i, i < t ∧ L i = p
/-- what the queue L of length t and the distances' row f are -/
def qv (L : Nat → Nat) (t : Nat) (f : Nat → Int32) : Prop := 1 ≤ t ∧ L 0 = idN ∧ (∀ i, i < t → isP (L i)) ∧ (∀ i j, i < t → j < t → L i = L j → i = j) ∧ (∀ p, isP p → inq L t p → f (rkN p) = Int32.ofNat (dp p)) ∧ (∀ p, isP p → ¬ inq L t p → f (rkN p) = -1) ∧ ∀ i j, i ≤ j → j < t → dp (L i) ≤ dp (L j)
def c24 (g : Nat) : Nat := 8 * (g / 4) + lsC g
/-- at head h, ahead of the gate a (of 24) -/
def qh (L : Nat → Nat) (t h a : Nat) : Prop := (∀ i, i < h → ∀ g, g < 12 → inq L t (bhN (L i) g)) ∧ (∀ j, j < t → dp (L j) ≤ dp (L h) + 1) ∧ (∀ g, g < 12 → c24 g < a → inq L t (bhN (L h) g)) ∧ ∀ p, isP p → dp p ≤ dp (L h) → inq L t p
theorem qv_t {L : Nat → Nat} {t : Nat} {f : Nat → Int32} (h : qv L t f) : t ≤ 40320 :=
  php 40320 t (fun i => rkN (L i)) (fun i _ => rk_lt _) (fun i j hi hj e => h.2.2.2.1 i j hi hj (rk_inj (h.2.2.1 i hi) (h.2.2.1 j hj) e))
def tuI (T : Nat → Int32) (s : Nat) (v : Int32) : Nat → Int32 := fun i => if i = s then v else T i
theorem qv_n {L : Nat → Nat} {t h a g : Nat} {f : Nat → Int32} (k : qv L t f) (ht : h < t) (q : qh L t h a) (hg : g < 12) (hn : ¬ inq L t (bhN (L h) g)) : qv (tu L t (bhN (L h) g)) (t + 1) (tuI f (rkN (bhN (L h) g)) (Int32.ofNat (dp (L h) + 1))) ∧ qh (tu L t (bhN (L h) g)) (t + 1) h a ∧ t < 40320 ∧ dp (bhN (L h) g) = dp (L h) + 1 ∧ (tu L t (bhN (L h) g)) h = L h := by
  have ⟨k0, k1, k2, k3, k4, k5, k6⟩ := k
  have ⟨q1, q2, q3, q4⟩ := q
  have hy := isP_bh hg (k2 h ht)
  have dy : dp (bhN (L h) g) = dp (L h) + 1 := by
    have a := dp_up (k2 h ht) hg
    have b : ¬ dp (bhN (L h) g) ≤ dp (L h) := fun c => hn (q4 _ hy c)
    omega
  have eh : (tu L t (bhN (L h) g)) h = L h := tu_n (by omega)
  generalize bhN (L h) g = y at *
  have iq : ∀ p, inq L t p → inq (tu L t y) (t + 1) p := fun p ⟨i, hi, e⟩ => ⟨i, by omega, by rw [tu_n (by omega)]; exact e⟩
  have iy : inq (tu L t y) (t + 1) y := ⟨t, by omega, tu_s _ _ _⟩
  have io : ∀ p, inq (tu L t y) (t + 1) p → p = y ∨ inq L t p := fun p ⟨i, hi, e⟩ => by
    by_cases c : i = t
    · rw [c, tu_s] at e; exact .inl e.symm
    · rw [tu_n c] at e; exact .inr ⟨i, by omega, e⟩
  have kv : qv (tu L t y) (t + 1) (tuI f (rkN y) (Int32.ofNat (dp (L h) + 1))) := by
    refine ⟨by omega, by rw [tu_n (by omega)]; exact k1, fun i hi => ?_, fun i j hi hj e => ?_, fun p hp ip => ?_, fun p hp ip => ?_, fun i j hij hj => ?_⟩
    · by_cases c : i = t
      · rw [c, tu_s]; exact hy
      · rw [tu_n c]; exact k2 i (by omega)
    · by_cases c : i = t
      · by_cases c2 : j = t
        · omega
        · rw [c, tu_s, tu_n c2] at e
          exact absurd ⟨j, by omega, e.symm⟩ hn
      · by_cases c2 : j = t
        · rw [c2, tu_s, tu_n c] at e
          exact absurd ⟨i, by omega, e⟩ hn
        · rw [tu_n c, tu_n c2] at e
          exact k3 i j (by omega) (by omega) e
    · by_cases c : p = y
      · rw [c, ← dy]; exact if_pos rfl
      · have r : rkN p ≠ rkN y := fun z => c (rk_inj hp hy z)
        show (if rkN p = rkN y then _ else _) = _
        rw [if_neg r]
        exact k4 p hp ((io p ip).resolve_left c)
    · have c : p ≠ y := fun z => ip (z ▸ iy)
      have r : rkN p ≠ rkN y := fun z => c (rk_inj hp hy z)
      show (if rkN p = rkN y then _ else _) = _
      rw [if_neg r]
      exact k5 p hp (fun z => ip (iq p z))
    · by_cases c2 : j = t
      · rw [c2, tu_s, dy]
        by_cases c : i = t
        · rw [c, tu_s, dy]; exact Nat.le_refl _
        · rw [tu_n c]; exact q2 i (by omega)
      · rw [tu_n c2, tu_n (by omega)]
        exact k6 i j hij (by omega)
  refine ⟨kv, ⟨fun i hi g' hg' => ?_, fun j hj => ?_, fun g' hg' ha => ?_, fun p hp hl => ?_⟩, ?_, dy, eh⟩
  · rw [tu_n (by omega)]; exact iq _ (q1 i hi g' hg')
  · rw [eh]
    by_cases c : j = t
    · rw [c, tu_s, dy]; exact Nat.le_refl _
    · rw [tu_n c]; exact q2 j (by omega)
  · rw [eh]; exact iq _ (q3 g' hg' ha)
  · rw [eh] at hl; exact iq _ (q4 p hp hl)
  · have := qv_t kv; omega
theorem c24_lt : ∀ g, g < 12 → c24 g < 24 := by decide
theorem c24_p : ∀ g, g < 12 → c24 g / 8 = g / 4 ∧ c24 g % 8 = lsC g ∧ lsC g < 8 := by decide
theorem c24_i : ∀ g, g < 12 → ∀ k, k < 12 → c24 g = c24 k → g = k := by decide
theorem c24_m : ∀ g, g < 12 → ∀ k, k < 12 → k < g → c24 k < c24 g := by decide
theorem c24_a : ∀ a, a < 24 → (a / 2 ^ (a / 8) % 2 = 1 ∧ ∀ g, g < 12 → c24 g ≠ a) ∨ (a / 2 ^ (a / 8) % 2 = 0 ∧ ∃ g, g < 12 ∧ c24 g = a) := by decide
/-- a gate that is none, or whose neighbour stands in the queue -/
theorem qh_a {L : Nat → Nat} {t h a : Nat} (q : qh L t h a) (hg : ∀ g, g < 12 → c24 g = a → inq L t (bhN (L h) g)) : qh L t h (a + 1) :=
  ⟨q.1, q.2.1, fun g h1 h2 => by
    by_cases c : c24 g = a
    · exact hg g h1 c
    · exact q.2.2.1 g h1 (by omega), q.2.2.2⟩
/-- the next head -/
theorem qh_h {L : Nat → Nat} {t h : Nat} {f : Nat → Int32} (k : qv L t f) (ht : h + 1 < t) (q : qh L t h 24) : qh L t (h + 1) 0 := by
  have ⟨k0, k1, k2, k3, k4, k5, k6⟩ := k
  have ⟨q1, q2, q3, q4⟩ := q
  have n1 : ∀ i, i < h + 1 → ∀ g, g < 12 → inq L t (bhN (L i) g) := fun i hi g hg => by
    by_cases c : i = h
    · rw [c]; exact q3 g hg (c24_lt g hg)
    · exact q1 i (by omega) g hg
  have s1 := k6 h (h + 1) (by omega) ht
  have s2 := q2 (h + 1) ht
  refine ⟨n1, fun j hj => ?_, fun g hg h0 => absurd h0 (by omega), fun p hp hl => ?_⟩
  · have := q2 j hj; omega
  · by_cases c : dp p ≤ dp (L h)
    · exact q4 p hp c
    · have ⟨g, hg, e⟩ := dp_s hp (by omega)
      have ⟨i, hi, ei⟩ := q4 _ (isP_bh hg hp) (by omega)
      have il : i < h + 1 := Nat.lt_of_not_le fun z => by
        have := k6 (h + 1) i z hi
        rw [ei] at this; omega
      have r := n1 i il g hg
      rw [ei, bh_i hg (isP_lt hp)] at r
      exact r
/-- at the end every permutation has its distance -/
theorem qv_e {L : Nat → Nat} {t : Nat} {f : Nat → Int32} (k : qv L t f) (h : ∀ i, i < t → ∀ g, g < 12 → inq L t (bhN (L i) g)) : ∀ p, isP p → f (rkN p) = Int32.ofNat (dp p) := by
  have key : ∀ n p, isP p → dp p = n → inq L t p := by
    intro n
    induction n with
    | zero => intro p hp e; exact ⟨0, k.1, by rw [k.2.1]; exact ((dp_0 hp).1 e).symm⟩
    | succ n ih =>
      intro p hp e
      have ⟨g, hg, e2⟩ := dp_s hp (by omega)
      have ⟨i, hi, ei⟩ := ih _ (isP_bh hg hp) (by omega)
      have r := h i hi g hg
      rw [ei, bh_i hg (isP_lt hp)] at r
      exact r
  exact fun p hp => k.2.2.2.2.1 p hp (key _ p hp rfl)
theorem dp_id : dp idN = 0 := (dp_0 isP_id).2 rfl
theorem qv_0 {L : Nat → Nat} {f : Nat → Int32} (hL : L 0 = idN) (hf : ∀ r, r < 40320 → f r = -1) : qv L 1 (tuI f (rkN idN) (Int32.ofNat 0)) ∧ qh L 1 0 0 := by
  have one : ∀ p, inq L 1 p ↔ p = idN := fun p => ⟨fun ⟨i, hi, e⟩ => by rw [← e, show i = 0 by omega, hL], fun e => ⟨0, by omega, by rw [hL, e]⟩⟩
  refine ⟨⟨by omega, hL, fun i hi => ?_, fun i j hi hj _ => by omega, fun p hp ip => ?_, fun p hp ip => ?_, fun i j _ hj => ?_⟩, fun i hi => absurd hi (by omega), fun j hj => ?_, fun g hg h => absurd h (by omega), fun p hp hl => ?_⟩
  · rw [show i = 0 by omega, hL]; exact isP_id
  · rw [(one p).1 ip, dp_id]; exact if_pos rfl
  · have c : p ≠ idN := fun z => ip ((one p).2 z)
    show (if rkN p = rkN idN then _ else _) = _
    rw [if_neg (fun z => c (rk_inj hp isP_id z))]
    exact hf _ (rk_lt _)
  · rw [show i = 0 by omega, show j = 0 by omega]; exact Nat.le_refl _
  · rw [show j = 0 by omega]; omega
  · rw [hL, dp_id] at hl
    exact (one p).2 ((dp_0 hp).1 (by omega))
/-- the next gate: the lowest that comes nearer; what is left behind k of them -/
theorem gre_e : ∃ F : Nat → Nat, ∀ x, isP x → dq x ≠ 0 → F x < 12 ∧ dq (gaN x (F x)) + 1 = dq x ∧ ∀ g', g' < F x → dq x ≤ dq (gaN x g') := by
  have h : ∀ x : Nat, ∃ g : Nat, isP x → dq x ≠ 0 → g < 12 ∧ dq (gaN x g) + 1 = dq x ∧ ∀ g', g' < g → dq x ≤ dq (gaN x g') := fun x => by
    by_cases c : isP x ∧ dq x ≠ 0
    · have ⟨g, k⟩ := dq_g c.1 c.2
      exact ⟨g, fun _ _ => k⟩
    · exact ⟨0, fun a b => absurd ⟨a, b⟩ c⟩
  have ⟨F, hF⟩ := Classical.skolem.1 h
  exact ⟨F, hF⟩
noncomputable def gre : Nat → Nat := Classical.choose gre_e
theorem gre_p {x : Nat} (h : isP x) (h0 : dq x ≠ 0) : gre x < 12 ∧ dq (gaN x (gre x)) + 1 = dq x ∧ ∀ g', g' < gre x → dq x ≤ dq (gaN x g') := Classical.choose_spec gre_e x h h0
noncomputable def rs : Nat → Nat → Nat
  | 0, x => x
  | k + 1, x => rs k (gaN x (gre x))
theorem rs_s (k x : Nat) : rs (k + 1) x = gaN (rs k x) (gre (rs k x)) := by
  induction k generalizing x with
  | zero => rfl
  | succ k ih => exact ih (gaN x (gre x))
noncomputable def gw (k x : Nat) : Nat := gre (rs k x)
theorem rs_p {x : Nat} (h : isP x) : ∀ k, k ≤ dq x → isP (rs k x) ∧ dq (rs k x) + k = dq x
  | 0, _ => ⟨h, rfl⟩
  | k + 1, hk => by
    have ⟨a, b⟩ := rs_p h k (by omega)
    have c := gre_p a (by omega)
    rw [rs_s]
    exact ⟨isP_ga c.1 a, by omega⟩
theorem gre_o {x : Nat} (h : isP x) (h0 : 2 ≤ dq x) : gre x < gre (gaN x (gre x)) ∨ cmg (gre x) (gre (gaN x (gre x))) = false := by
  have a := gre_p h (by omega)
  have b := gre_p (isP_ga a.1 h) (by omega)
  exact dq_or h a.1 b.1 a.2.1 a.2.2 b.2.1
/-- pairwise: eight that meet all eight are apart -/
theorem pig8 {f : Nat → Nat} (h : ∀ v, v < 8 → ∃ j, j < 8 ∧ f j = v) : ∀ i j, i < 8 → j < 8 → f i = f j → i = j := by
  intro i j hi hj e
  refine Decidable.byContradiction fun c => ?_
  have hc : ∀ v : Nat, ∃ j : Nat, v < 8 → j < 8 ∧ f j = v := fun v => by
    by_cases hv : v < 8
    · have ⟨j, a⟩ := h v hv
      exact ⟨j, fun _ => a⟩
    · exact ⟨0, fun k => absurd k hv⟩
  have ⟨u, hu⟩ := Classical.skolem.1 hc
  have u1 : ∀ v, v < 8 → u v < 8 := fun v hv => (hu v hv).1
  have u2 : ∀ v, v < 8 → f (u v) = v := fun v hv => (hu v hv).2
  have uj : ∀ v w, v < 8 → w < 8 → u v = u w → v = w := fun v w hv hw z => by rw [← u2 v hv, z, u2 w hw]
  -- one of i, j is met by none
  have miss : ∃ m, m < 8 ∧ ∀ v, v < 8 → u v ≠ m := by
    by_cases z : ∃ v, v < 8 ∧ u v = i
    · have ⟨v, hv, ev⟩ := z
      refine ⟨j, hj, fun w hw ew => ?_⟩
      have a : w = f j := by rw [← ew, u2 w hw]
      have b : v = f i := by rw [← ev, u2 v hv]
      have : w = v := by rw [a, b, e]
      rw [this, ev] at ew
      exact c ew
    · exact ⟨i, hi, fun w hw ew => z ⟨w, hw, ew⟩⟩
  have ⟨m, hm, mm⟩ := miss
  have q := php 7 8 (fun v => if u v < m then u v else u v - 1) (fun v hv => by
    have a := u1 v hv
    have b := mm v hv
    show (if u v < m then u v else u v - 1) < 7
    split <;> omega) (fun v w hv hw z => by
    have a := mm v hv
    have b := mm w hw
    refine uj v w hv hw ?_
    revert z
    show (if u v < m then u v else u v - 1) = (if u w < m then u w else u w - 1) → _
    split <;> split <;> omega)
  omega
