/-! DIAGRAMS: complement at the reference -/
section CPR
variable {d m inp : Nat} {N : mm_M} {W : WB} {S : Nat → Bool}
theorem ja_E {i a y : Nat} (hi : i ≠ a) (hs : S a = false) : ∀ n, (jaW W i S n).2.2 a y = W.2.2 a y
  | 0 => rfl
  | n + 1 => by
    by_cases h : S n = true
    · have : n ≠ a := fun z => by
        rw [z, hs] at h
        exact absurd h (by decide)
      rw [ja_p h, jn_E (by omega), ja_E hi hs n]
    · rw [ja_n h, ja_E hi hs n]
theorem cp_E {k a y : Nat} (hs : S a = false) : ∀ n, (cpJ S k W n).2.2 a y = W.2.2 a y
  | 0 => rfl
  | n + 1 => by
    by_cases h : S n = true
    · have : n ≠ a := fun z => by
        rw [z, hs] at h
        exact absurd h (by decide)
      rw [cp_p h, ja_E this hs]
      exact cp_E hs n
    · rw [cp_n h, cp_E hs n]
theorem ja_rm {i a : Nat} (hi : i ≠ a) (hs : S a = false) : ∀ n, rmW (jaW W i S n) a = jaW (rmW W a) i S n
  | 0 => rfl
  | n + 1 => by
    by_cases h : S n = true
    · have : n ≠ a := fun z => by
        rw [z, hs] at h
        exact absurd h (by decide)
      rw [ja_p h, ja_p h, rm_jn hi this, ja_rm hi hs n]
    · rw [ja_n h, ja_n h, ja_rm hi hs n]
theorem cp_rm {k a : Nat} (hs : S a = false) : ∀ n, rmW (cpJ S k W n) a = cpJ S k (rmW W a) n
  | 0 => rfl
  | n + 1 => by
    by_cases h : S n = true
    · have hn : n ≠ a := fun z => by
        rw [z, hs] at h
        exact absurd h (by decide)
      rw [cp_p h, cp_p h, ja_rm hn hs, ← cp_rm hs n]
      rfl
    · rw [cp_n h, cp_n h, cp_rm hs n]
theorem cp_m {k n : Nat} : ∀ t, (∀ i, n ≤ i → S i = false) → cpJ S k W (n + t) = cpJ S k W n
  | 0, _ => rfl
  | t + 1, h => by
    rw [show n + (t + 1) = (n + t) + 1 from rfl, cp_n (by rw [h _ (by omega)]; decide)]
    exact cp_m t h
set_option maxRecDepth 100000 in
theorem cr_j {a i k : Nat} {by' : Int32} {W0 W1 : WB} {N0 : mm_M} {Pp : am_Q} {X : am_X} (hX : am_K (d + 2) false nm_X12_complement Pp X) (g : gdW m inp W1) (la : a < 60) (hi : W1.1 i = true) (hs : ∀ j, S j = true → W1.1 j = true) (sa : S a = false) (hia : i ≠ a) (hE : ∀ j, S j = decide (W1.2.2 a j ≠ 0)) (hK : ∀ N l4, rwF N0 N → rwR N inp (jaW W1 i S i) → X 117 [some (aR 108), some (aI (nI a)), some (aI by'), some (aI (nI i)), l4] [] N) : ∀ w j N, j + w = i → rwF N0 N → rwR N inp (jaW W1 i S j) → X 87 [some (aR 108), some (aI (nI a)), some (aI by'), some (aI (nI i)), some (aI (nI j))] [] N := by
  have m60 := g.1
  have li := g.2.2.2.2.1 i hi
  intro w
  induction w with
  | zero =>
    intro j N hj hf h
    have hj : j = i := by omega
    subst hj
    refine am_run hX 3 _ _ _ _ ?_
    conv => whnf
    exact ⟨fun _ => hK N _ hf h, fun c => absurd (nI_le (by omega) (by omega)) c⟩
  | succ w ih =>
    intro j N hj hf h
    have gj := ja_gdn (S := S) g hi hs j (by omega)
    have k1 := ct_ekR (d := d + 1) (i := a) (j := j) h la (by omega)
    rw [ja_E hia sa] at k1
    have e2 := g.2.2.2.2.2.2.2.2.1 a j
    have nx : ∀ N', rwF N0 N' → rwR N' inp (jaW W1 i S (j + 1)) → X 111 [some (aR 108), some (aI (nI a)), some (aI by'), some (aI (nI i)), some (aI (nI j))] [] N' := fun N' f' h' => by
      refine am_run hX 2 _ _ _ _ ?_
      conv => whnf
      rw [nI_1]
      exact ih (j + 1) N' (by omega) f' h'
    refine am_run hX 3 _ _ _ _ ?_
    conv => whnf
    refine ⟨fun c => absurd c (nI_ge (by omega) (by omega)), fun _ => ?_⟩
    refine am_run hX 5 _ _ _ _ ?_
    conv => whnf
    refine am_c1 k1 ?_
    conv => whnf
    by_cases z : W1.2.2 a j = 0
    · have sj : ¬ S j = true := by rw [hE j, decide_eq_false (fun y => y z)]; decide
      exact ⟨fun _ => nx N hf (by rw [ja_n sj]; exact h), fun c => absurd (by rw [z]; rfl) c⟩
    · have sj : S j = true := by rw [hE j]; exact decide_eq_true z
      refine ⟨fun c => absurd c (nI_ne0 (by omega) (by omega)), fun _ => ?_⟩
      refine am_run hX 5 _ _ _ _ ?_
      conv => whnf
      refine am_cq (ct_jnR (d := d) (a := i) (b := j) (v := 2) h (gj.2.2.2.2.2.2.2.2.1 i j) (by omega) (by omega) (Or.inr rfl)) ?_
      rintro r N' ⟨rfl, f', h'⟩
      refine ⟨none, rfl, ?_⟩
      conv => whnf
      exact nx N' (rwF_t hf f') (by rw [ja_p sj]; exact h')
set_option maxRecDepth 100000 in
theorem cr_i {a k : Nat} {W0 : WB} {N0 : mm_M} {Pp : am_Q} {X : am_X} (hX : am_K (d + 2) false nm_X12_complement Pp X) (g : gdW m inp W0) (la : a < 60) (hs : ∀ j, S j = true → W0.1 j = true) (sa : S a = false) (hE : ∀ j, S j = decide (W0.2.2 a j ≠ 0)) (hK : ∀ N l4, rwF N0 N → rwR N inp (cpJ S k W0 60) → X 123 [some (aR 108), some (aI (nI a)), some (aI (nI k)), some (aI (nI 60)), l4] [] N) : ∀ w i N l4, i + w = 60 → rwF N0 N → rwR N inp (cpJ S k W0 i) → X 60 [some (aR 108), some (aI (nI a)), some (aI (nI k)), some (aI (nI i)), l4] [] N := by
  have m60 := g.1
  intro w
  induction w with
  | zero =>
    intro i N l4 hi hf h
    have hi : i = 60 := by omega
    subst hi
    refine am_run hX 3 _ _ _ _ ?_
    conv => whnf
    exact ⟨fun _ => hK N _ hf h, fun c => absurd (by decide) c⟩
  | succ w ih =>
    intro i N l4 hi hf h
    have gi := cp_gd (k := k) g hs i
    have k1 := ct_ekR (d := d + 1) (i := a) (j := i) h la (by omega)
    rw [cp_E sa] at k1
    have e2 := g.2.2.2.2.2.2.2.2.1 a i
    have nx : ∀ N' l4, rwF N0 N' → rwR N' inp (cpJ S k W0 (i + 1)) → X 117 [some (aR 108), some (aI (nI a)), some (aI (nI k)), some (aI (nI i)), l4] [] N' := fun N' l4 f' h' => by
      refine am_run hX 2 _ _ _ _ ?_
      conv => whnf
      rw [nI_1]
      exact ih (i + 1) N' _ (by omega) f' h'
    refine am_run hX 3 _ _ _ _ ?_
    conv => whnf
    refine ⟨fun c => absurd c (nI_ge (a := i) (b := 60) (by omega) (by decide)), fun _ => ?_⟩
    refine am_run hX 5 _ _ _ _ ?_
    conv => whnf
    refine am_c1 k1 ?_
    conv => whnf
    by_cases z : W0.2.2 a i = 0
    · have si : ¬ S i = true := by rw [hE i, decide_eq_false (fun y => y z)]; decide
      refine ⟨fun c => absurd (by rw [z]; rfl) c, fun _ => ?_⟩
      refine am_run hX 1 _ _ _ _ ?_
      conv => whnf
      exact nx N _ hf (by rw [cp_n si]; exact h)
    · have si : S i = true := by rw [hE i]; exact decide_eq_true z
      have hia : i ≠ a := fun y => by
        rw [y, sa] at si
        exact absurd si (by decide)
      refine ⟨fun _ => ?_, fun c => absurd (nI_ne0 (by omega) (by omega)) c⟩
      refine am_run hX 6 _ _ _ _ ?_
      conv => whnf
      refine am_c0 (ct_grR0 (d := d + 1) (a := i) (k := k) (by omega)) ?_
      conv => whnf
      refine cr_j (d := d) (i := i) (k := k) (W0 := W0) (W1 := ((cpJ S k W0 i).1, grw (cpJ S k W0 i).2.1 i k, (cpJ S k W0 i).2.2)) (N0 := N0) hX (gd_gr gi) la ?_ (fun j hj => ?_) sa hia (fun j => ?_) (fun N' l4 f' h' => nx N' l4 f' (by rw [cp_p si]; exact h')) i 0 _ (by omega) (rwF_t hf rwF_gr) (rwR_gr h)
      · show (cpJ S k W0 i).1 i = true
        rw [cp_T]
        exact hs i si
      · show (cpJ S k W0 i).1 j = true
        rw [cp_T]
        exact hs j hj
      · show S j = decide ((cpJ S k W0 i).2.2 a j ≠ 0)
        rw [cp_E sa]
        exact hE j
theorem cp_iff {a : Nat} (g : gdW m inp W) : cpOK inp W a ↔ inW inp W a ∧ (W.2.1 a = 2 ∨ W.2.1 a = 6) ∧ fsP inp W a ∧ npP W a a := by
  obtain ⟨g1, g2, g3, g4, g5, g6, g7, g8, g9, g10, g11⟩ := g
  constructor
  · rintro ⟨ia, p2, n1, f1, f2⟩
    have := g11 a ia.1
    refine ⟨ia, by omega, fun j hj => ?_, fun i j hji hi hj => ?_⟩
    · have := g9 a j
      have e : W.2.2 a j = 2 := by
        have := n1 j
        omega
      exact ⟨e, f2 j (decide_eq_true e)⟩
    · have e : ∀ x, nxP W x a a → decide (W.2.2 a x = 2) = true := fun x hx => by
        have y : W.2.2 a x ≠ 0 := by
          rw [g7]
          exact hx.2.2.elim id id
        have := n1 x
        have := g9 a x
        exact decide_eq_true (by omega)
      exact f1 i j (e i hi) (e j hj)
  · rintro ⟨ia, p2, hf, hn⟩
    have e : ∀ x, decide (W.2.2 a x = 2) = true → nxP W x a a := fun x hx => by
      have hx := of_decide_eq_true hx
      have : x ≠ a := fun z => by
        rw [z, g8] at hx
        exact absurd hx (by decide)
      exact ⟨this, this, Or.inl (by rw [g7]; omega)⟩
    refine ⟨ia, by omega, fun j z => ?_, fun i j hi hj => ?_, fun i hi => ?_⟩
    · have := (hf j (by omega)).1
      omega
    · rcases Nat.lt_trichotomy i j with h | h | h
      · rw [g7]
        exact hn j i h (e j hj) (e i hi)
      · rw [h, g8]
        decide
      · exact hn i j h (e i hi) (e j hj)
    · have := of_decide_eq_true hi
      exact (hf i (by omega)).2
set_option maxRecDepth 100000 in
theorem cr_a {p : Int32} {Pp : am_Q} {X : am_X} (hX : am_K (d + 3) false nm_X12_complement Pp X) (h : rwR N inp W) (g : gdW m inp W) (hN : ¬ (∃ a, p = nI a ∧ cpOK inp W a) → X 46 [some (aR 108), some (aI p), none, none, none] [] N) (hK : ∀ a, p = nI a → cpOK inp W a → X 48 [some (aR 108), some (aI p), none, none, none] [] N) : X 0 [some (aR 108), some (aI p), none, none, none] [] N := by
  have m60 := g.1
  have g5 := g.2.2.2.2.1
  by_cases hp : ∃ i, inW inp W i ∧ p = nI i
  · refine am_run hX 4 _ _ _ _ ?_
    conv => whnf
    refine am_c1 (ct_inR (d := d + 1) h g) ?_
    rw [iteC_t hp]
    conv => whnf
    refine ⟨fun c => absurd c (by decide), fun _ => ?_⟩
    obtain ⟨a, ia, rfl⟩ := hp
    have la := g5 a ia.1
    have un : ∀ a', nI a = nI a' → cpOK inp W a' → cpOK inp W a := fun a' e y => by
      have := g5 a' y.1.1
      rw [(nI_eq (by omega) (by omega)).mp e]
      exact y
    have hA : vp_in (nI a) 60 := vp_in_nI (by omega) (by decide)
    have p8 := g.2.2.2.2.2.2.2.2.2.2 a ia.1
    have k29 : (W.2.1 a = 2 ∨ W.2.1 a = 6) → X 29 [some (aR 108), some (aI (nI a)), none, none, none] [] N := fun hp2 => by
      refine am_run hX 4 _ _ _ _ ?_
      conv => whnf
      refine am_cq (ct_fsR (d := d) h g (by omega)) ?_
      rintro r N1 ⟨rfl, ⟨hf, rfl⟩ | ⟨hf, rfl⟩⟩
      · refine ⟨_, rfl, ?_⟩
        conv => whnf
        refine ⟨fun c => absurd c (by decide), fun _ => ?_⟩
        refine am_run hX 5 _ _ _ _ ?_
        conv => whnf
        refine am_cq (ct_npR (d := d) h g (by omega) (by omega)) ?_
        rintro r N2 ⟨rfl, ⟨hn, rfl⟩ | ⟨hn, rfl⟩⟩
        · refine ⟨_, rfl, ?_⟩
          conv => whnf
          exact ⟨fun _ => hK a rfl ((cp_iff g).mpr ⟨ia, hp2, hf, hn⟩), fun c => absurd (by decide) c⟩
        · refine ⟨_, rfl, ?_⟩
          conv => whnf
          exact ⟨fun c => absurd rfl c, fun _ => hN fun ⟨a', e, y⟩ => hn ((cp_iff g).mp (un a' e y)).2.2.2⟩
      · refine ⟨_, rfl, ?_⟩
        conv => whnf
        exact ⟨fun _ => hN fun ⟨a', e, y⟩ => hf ((cp_iff g).mp (un a' e y)).2.2.1, fun c => absurd rfl c⟩
    refine am_run hX 6 _ _ _ _ ?_
    conv => whnf
    refine ⟨hA, ?_⟩
    conv => whnf
    rw [nI_clamp (n := a) (by omega), h.2.2.2.1 a ia.1]
    by_cases p2 : W.2.1 a = 2
    · exact ⟨fun _ => k29 (Or.inl p2), fun c => absurd (by rw [p2]; rfl) c⟩
    · refine ⟨fun c => absurd ((nI_eq (a := W.2.1 a) (b := 2) (by omega) (by decide)).mp c) p2, fun _ => ?_⟩
      refine am_run hX 6 _ _ _ _ ?_
      conv => whnf
      refine ⟨hA, ?_⟩
      conv => whnf
      rw [nI_clamp (n := a) (by omega), h.2.2.2.1 a ia.1]
      by_cases p6 : W.2.1 a = 6
      · exact ⟨fun c => absurd (by rw [p6]; rfl) c, fun _ => k29 (Or.inr p6)⟩
      · refine ⟨fun _ => hN fun ⟨a', e, y⟩ => ?_, fun c => absurd (fun z => p6 ((nI_eq (a := W.2.1 a) (b := 6) (by omega) (by decide)).mp z)) c⟩
        have := ((cp_iff g).mp (un a' e y)).2.1
        omega
  · refine am_run hX 4 _ _ _ _ ?_
    conv => whnf
    refine am_c1 (ct_inR (d := d + 1) h g) ?_
    rw [iteC_f hp]
    conv => whnf
    exact ⟨fun _ => hN fun ⟨a', e, y⟩ => hp ⟨a', y.1, e⟩, fun c => absurd rfl c⟩
set_option maxRecDepth 100000 in
theorem ct_cpR {p : Int32} (h : rwR N inp W) (g : gdW m inp W) : am_M (d + 4) false nm_X12_complement [aR 108, aI p] N (ruR N inp (∃ a, p = nI a ∧ cpOK inp W a) (cpV inp m W p)) := by
  have m60 := g.1
  refine ⟨rfl, rfl, rfl, fun X hX => cr_a (d := d) hX h g (fun hno => ?_) (fun a ea ok => ?_)⟩
  · refine am_run hX 2 _ _ _ _ ?_
    conv => whnf
    exact ⟨rfl, Or.inl ⟨hno, rfl, rfl⟩⟩
  · subst ea
    have ia := ok.1
    have la := g.2.2.2.2.1 a ia.1
    have p8 := g.2.2.2.2.2.2.2.2.2.2 a ia.1
    have hA : vp_in (nI a) 60 := vp_in_nI (by omega) (by decide)
    have hT : ∀ j, decide (W.2.2 a j = 2) = true → W.1 j = true := fun j hj => (g.2.2.2.2.2.2.2.2.2.1 a j (by have := of_decide_eq_true hj; omega)).2
    have sa : decide (W.2.2 a a = 2) = false := by rw [g.2.2.2.2.2.2.2.1]; rfl
    refine am_run hX 9 _ _ _ _ ?_
    conv => whnf
    refine ⟨hA, ?_⟩
    conv => whnf
    rw [nI_clamp (n := a) (by omega), h.2.2.2.1 a ia.1, show (8 : Int32) = nI 8 from rfl, nI_sub (by omega)]
    refine cr_i (d := d + 1) (a := a) (k := 8 - W.2.1 a) (S := fun j => decide (W.2.2 a j = 2)) (W0 := W) (N0 := N) hX g (by omega) hT sa (fun j => ?_) (fun N1 l4 f1 h1 => ?_) 60 0 N _ (by omega) (rwF_r N) h
    · have := ok.2.2.1 j
      have := g.2.2.2.2.2.2.2.2.1 a j
      rw [decide_eq_decide]
      omega
    · refine am_run hX 5 _ _ _ _ ?_
      conv => whnf
      refine am_cq (ct_rmR (d := d + 1) (a := a) h1 (by omega)) ?_
      rintro r N2 ⟨rfl, f2, h2⟩
      refine ⟨none, rfl, ?_⟩
      conv => whnf
      have e : rmW (cpJ (fun j => decide (W.2.2 a j = 2)) (8 - W.2.1 a) W 60) a = cpJ (fun j => decide (W.2.2 a j = 2)) (8 - W.2.1 a) (rmW W a) m := by
        rw [cp_rm sa]
        obtain ⟨t, ht⟩ : ∃ t, 60 = m + t := ⟨60 - m, by omega⟩
        rw [ht]
        refine cp_m t fun i hi => ?_
        cases hz : decide (W.2.2 a i = 2) with
        | false => rfl
        | true =>
          have := g.2.2.2.2.1 i (hT i hz)
          omega
      rw [e] at h2
      exact ⟨rfl, Or.inr ⟨⟨a, rfl, ok⟩, rfl, rwF_t f1 f2, _, ⟨a, rfl, ok, rfl⟩, h2⟩⟩
end CPR
