/-! SHORTEST: the reference finds all keys -/
def stZ (g : Nat) (k : K4) : K4 := szP (szS g) k
/-- found so far: all steps of those ahead of i, and i's steps ahead of g -/
def fwI (N : mm_M) (n : Nat) (T : Nat → K4) (fr yb B : Nat → Nat) (i g : Nat) : Prop := bfT stZ n T fr yb k4e ∧ twT N n T B ∧ (∀ j, j < n → symK (T j)) ∧ (∀ j, 0 < j → j < n → N.1 137 j = nI (fr j)) ∧ (∀ j, j < n → N.1 138 j = nI (yb j)) ∧ (∀ p, 0 < p → p < n → fr p < i ∨ (fr p = i ∧ yb p < g)) ∧ (∀ j h, j < n → h < 5 → (j < i ∨ (j = i ∧ h < g)) → ∃ p, p < n ∧ T p = stZ h (T j) ∧ (0 < p → fr p < j ∨ (fr p = j ∧ yb p ≤ h)))
def fwF (M N : mm_M) : Prop := (∀ k, k ≠ 108 → (k < 136 ∨ 139 < k) → N.1 k = M.1 k) ∧ N.2 = M.2 ∧ ∀ y, (y < 45 ∨ 47 < y) → y ≠ 49 → N.1 108 y = M.1 108 y
theorem fwF_r (M : mm_M) : fwF M M := ⟨fun _ _ _ => rfl, rfl, fun _ _ _ => rfl⟩
theorem fwF_t {M N K : mm_M} (h : fwF M N) (g : fwF N K) : fwF M K := ⟨fun k a b => (g.1 k a b).trans (h.1 k a b), g.2.1.trans h.2.1, fun y a b => (g.2.2 y a b).trans (h.2.2 y a b)⟩
theorem fwF_g {M N : mm_M} (h : g45 M N) : fwF M N := ⟨fun k a _ => h.1 k a, h.2.1, fun y a _ => h.2.2 y (by omega) (by omega) (by omega)⟩
theorem fwF_k {M N : mm_M} {n g : Nat} {fr : Int32} (h : kpF n fr g M N) : fwF M N := ⟨h.1, h.2.1, fun y _ b => h.2.2.1 y b⟩
theorem twT_g {M N : mm_M} {n : Nat} {T : Nat → K4} {B : Nat → Nat} (h : g45 M N) (ht : twT M n T B) : twT N n T B := by
  unfold twT at ht ⊢
  rw [h.2.2 49 (by decide) (by decide) (by decide), h.1 136 (by decide), h.1 139 (by decide)]
  exact ht
theorem fwI_g {M N : mm_M} {n i g : Nat} {T : Nat → K4} {fr yb B : Nat → Nat} (h : g45 M N) (hI : fwI M n T fr yb B i g) : fwI N n T fr yb B i g := by
  obtain ⟨a1, a2, a3, a4, a5, a6⟩ := hI
  exact ⟨a1, twT_g h a2, a3, fun j b c => by rw [h.1 137 (by decide)]; exact a4 j b c, fun j b => by rw [h.1 138 (by decide)]; exact a5 j b, a6⟩
theorem stZ_s {g : Nat} {k : K4} (hg : g < 5) (h : symK k) : symK (stZ g k) := sym_P (szS_19 g hg) h
/-- the key is there already -/
theorem fwI_y {N : mm_M} {n i g p : Nat} {T : Nat → K4} {fr yb B : Nat → Nat} (h : fwI N n T fr yb B i g) (hp : p < n) (e : T p = stZ g (T i)) : fwI N n T fr yb B i (g + 1) := by
  obtain ⟨a1, a2, a3, a4, a5, a6, a7⟩ := h
  refine ⟨a1, a2, a3, a4, a5, fun q b c => ?_, fun j h b c f => ?_⟩
  · have := a6 q b c
    omega
  · by_cases z : j = i ∧ h = g
    · obtain ⟨z1, z2⟩ := z
      subst z1
      subst z2
      refine ⟨p, hp, e, fun p0 => ?_⟩
      have := a6 p p0 hp
      omega
    · exact a7 j h b c (by omega)
/-- the key is new -/
theorem fwI_n {N N' : mm_M} {n i g : Nat} {T : Nat → K4} {fr yb B B' : Nat → Nat} (h : fwI N n T fr yb B i g) (hi : i < n) (hg : g < 5) (hno : ∀ p, p < n → T p ≠ stZ g (T i)) (hk : kpF n (nI i) g N N') (ht : twT N' (n + 1) (upK T n (stZ g (T i))) B') : fwI N' (n + 1) (upK T n (stZ g (T i))) (fun p => if p = n then i else fr p) (fun p => if p = n then g else yb p) B' i (g + 1) := by
  obtain ⟨⟨c1, c2, c3, c4, c5⟩, a2, a3, a4, a5, a6, a7⟩ := h
  have Un : upK T n (stZ g (T i)) n = stZ g (T i) := if_pos rfl
  have Uo : ∀ p, p < n → upK T n (stZ g (T i)) p = T p := fun p hp => if_neg (by omega)
  refine ⟨⟨by omega, by rw [Uo 0 c1]; exact c2, fun p p0 hp => ?_, fun p q hp hq e => ?_, fun p q p0 hpq hq => ?_⟩, ht, fun j hj => ?_, fun j j0 hj => ?_, fun j hj => ?_, fun p p0 hp => ?_, fun j h hj h5 hl => ?_⟩
  · by_cases q : p = n
    · subst q
      show (if p = p then i else fr p) < p ∧ (if p = p then g else yb p) < 5 ∧ _ = stZ (if p = p then g else yb p) (upK T p _ (if p = p then i else fr p))
      rw [if_pos rfl, if_pos rfl, Un, Uo i hi]
      exact ⟨hi, hg, rfl⟩
    · obtain ⟨b1, b2, b3⟩ := c3 p p0 (by omega)
      show (if p = n then i else fr p) < p ∧ (if p = n then g else yb p) < 5 ∧ _ = stZ (if p = n then g else yb p) (upK T n _ (if p = n then i else fr p))
      rw [if_neg q, if_neg q, Uo p (by omega), Uo (fr p) (by omega)]
      exact ⟨b1, b2, b3⟩
  · by_cases z : p = n
    · by_cases w : q = n
      · rw [z, w]
      · rw [z, Un, Uo q (by omega)] at e
        exact absurd e.symm (hno q (by omega))
    · by_cases w : q = n
      · rw [w, Un, Uo p (by omega)] at e
        exact absurd e (hno p (by omega))
      · rw [Uo p (by omega), Uo q (by omega)] at e
        exact c4 p q (by omega) (by omega) e
  · have hpn : p ≠ n := by omega
    show (if p = n then i else fr p) < (if q = n then i else fr q) ∨ ((if p = n then i else fr p) = (if q = n then i else fr q) ∧ (if p = n then g else yb p) < (if q = n then g else yb q))
    rw [if_neg hpn, if_neg hpn]
    by_cases w : q = n
    · rw [if_pos w, if_pos w]
      exact a6 p p0 (by omega)
    · rw [if_neg w, if_neg w]
      exact c5 p q p0 hpq (by omega)
  · by_cases q : j = n
    · rw [q, Un]
      exact stZ_s hg (a3 i hi)
    · rw [Uo j (by omega)]
      exact a3 j (by omega)
  · rw [hk.2.2.2.1]
    show _ = nI (if j = n then i else fr j)
    by_cases q : j = n
    · rw [if_pos q, q]
      exact up_at
    · rw [if_neg q, up_ne q]
      exact a4 j j0 (by omega)
  · rw [hk.2.2.2.2]
    show _ = nI (if j = n then g else yb j)
    by_cases q : j = n
    · rw [if_pos q, q]
      exact up_at
    · rw [if_neg q, up_ne q]
      exact a5 j (by omega)
  · show (if p = n then i else fr p) < i ∨ ((if p = n then i else fr p) = i ∧ (if p = n then g else yb p) < g + 1)
    by_cases q : p = n
    · rw [if_pos q, if_pos q]
      omega
    · rw [if_neg q, if_neg q]
      have := a6 p p0 (by omega)
      omega
  · have jn : j < n := by omega
    by_cases z : j = i ∧ h = g
    · obtain ⟨z1, z2⟩ := z
      subst z1
      subst z2
      refine ⟨n, by omega, by rw [Un, Uo j jn], fun _ => Or.inr ?_⟩
      show (if n = n then j else fr n) = j ∧ (if n = n then h else yb n) ≤ h
      rw [if_pos rfl, if_pos rfl]
      exact ⟨rfl, Nat.le_refl _⟩
    · obtain ⟨p, b1, b2, b3⟩ := a7 j h jn h5 (by omega)
      refine ⟨p, by omega, by rw [Uo p b1, Uo j jn]; exact b2, fun p0 => ?_⟩
      show (if p = n then i else fr p) < j ∨ ((if p = n then i else fr p) = j ∧ (if p = n then g else yb p) ≤ h)
      rw [if_neg (by omega), if_neg (by omega)]
      exact b3 p0
theorem fwI_u {N : mm_M} {n i : Nat} {T : Nat → K4} {fr yb B : Nat → Nat} (h : fwI N n T fr yb B i 5) : fwI N n T fr yb B (i + 1) 0 := by
  obtain ⟨a1, a2, a3, a4, a5, a6, a7⟩ := h
  refine ⟨a1, a2, a3, a4, a5, fun p b c => ?_, fun j h b c f => a7 j h b c (by omega)⟩
  have := a6 p b c
  omega
section SHI
variable {d : Nat} {M : mm_M}
set_option maxRecDepth 100000 in
theorem fw_g {P : am_Q} {X : am_X} {i : Nat} (hX : am_K (d + 5) false nm_X12_findTwos P X) (hK : ∀ N n T fr yb B, fwF M N → fwI N n T fr yb B (i + 1) 0 → i + 1 ≤ n → ∀ l2 l3, X 24 [some (aR 108), some (aI (nI (i + 1))), l2, l3] [] N) : ∀ (m g : Nat) (N : mm_M) (n : Nat) (T : Nat → K4) (fr yb B : Nat → Nat) (l3 : Option am_V), g + m = 5 → fwF M N → fwI N n T fr yb B i g → i < n → X 34 [some (aR 108), some (aI (nI i)), some (aI (nI g)), l3] [] N := by
  intro m
  induction m with
  | zero =>
    intro g N n T fr yb B l3 hg hF hI hi
    obtain rfl : g = 5 := by omega
    refine am_run hX 3 _ _ _ _ ?_
    conv => whnf
    refine ⟨fun _ => ?_, fun z => absurd (by decide) z⟩
    refine am_run hX 2 _ _ _ _ ?_
    conv => whnf
    rw [nI_1]
    exact hK N n T fr yb B hF (fwI_u hI) hi _ _
  | succ m ih =>
    intro g N n T fr yb B l3 hg hF hI hi
    have g5 : g < 5 := by omega
    have htw := hI.2.1
    have n11 := htw.2.1
    obtain ⟨k1, k2⟩ := htw.2.2.1 i hi
    refine am_run hX 3 _ _ _ _ ?_
    conv => whnf
    refine ⟨fun z => absurd z (nI_ge (a := g) (b := 5) g5 (by decide)), fun _ => ?_⟩
    refine am_run hX 7 _ _ _ _ ?_
    conv => whnf
    refine ⟨vp_in_nI (by show i < 11520; omega) (by decide), ?_⟩
    conv => whnf
    rw [nI_clamp (n := i) (by omega), k2]
    refine am_cq (ct_stpT (d := d) (M := N) g5 k1) fun r1 N1 hq => ?_
    obtain ⟨rfl, f1⟩ := hq
    refine ⟨_, rfl, ?_⟩
    have hI1 := fwI_g f1 hI
    have hsy := stZ_s g5 (hI.2.2.1 i hi)
    refine am_run hX 4 _ _ _ _ ?_
    conv => whnf
    refine am_cq (ct_fTwo (d := d + 3) (t := stZ g (T i)) hI1.2.1 hsy.1) fun r2 N2 hq => ?_
    obtain ⟨rfl, ⟨p, hp, ep, rfl⟩ | ⟨hno, rfl⟩⟩ := hq
    · refine ⟨_, rfl, ?_⟩
      refine am_run hX 2 _ _ _ _ ?_
      conv => whnf
      refine ⟨fun _ => ?_, fun z => absurd (nI_nm (by omega)) z⟩
      refine am_run hX 2 _ _ _ _ ?_
      conv => whnf
      rw [nI_1]
      exact ih (g + 1) _ n T fr yb B _ (by omega) (fwF_t hF (fwF_g f1)) (fwI_y hI1 hp ep) hi
    · refine ⟨_, rfl, ?_⟩
      refine am_run hX 2 _ _ _ _ ?_
      conv => whnf
      refine ⟨fun z => absurd rfl z, fun _ => ?_⟩
      have hn : n < 11520 := by
        have := k_11520 (n := n + 1) (T := upK T n (stZ g (T i))) (fun j hj => by
          unfold upK
          split
          · exact hsy
          · exact hI.2.2.1 j (by omega)) (fun p q hp hq e => by
          unfold upK at e
          by_cases z : p = n
          · by_cases w : q = n
            · rw [z, w]
            · rw [if_pos z, if_neg w] at e
              exact absurd e.symm (hno q (by omega))
          · by_cases w : q = n
            · rw [if_neg z, if_pos w] at e
              exact absurd e (hno p (by omega))
            · rw [if_neg z, if_neg w] at e
              exact hI.1.2.2.2.1 p q (by omega) (by omega) e)
        omega
      refine am_run hX 5 _ _ _ _ ?_
      conv => whnf
      refine am_cq (ct_kTwo (d := d + 3) (t := stZ g (T i)) (fr := nI i) hI1.2.1 hn hsy.1 g5) fun r3 N3 hq => ?_
      obtain ⟨rfl, f3, B', h3⟩ := hq
      refine ⟨none, rfl, ?_⟩
      refine am_run hX 2 _ _ _ _ ?_
      conv => whnf
      rw [nI_1]
      exact ih (g + 1) N3 (n + 1) _ _ _ B' _ (by omega) (fwF_t (fwF_t hF (fwF_g f1)) (fwF_k f3)) (fwI_n hI1 hi g5 hno f3 h3) (by omega)
set_option maxRecDepth 100000 in
theorem fw_i {P : am_Q} {X : am_X} (hX : am_K (d + 5) false nm_X12_findTwos P X) (hP : ∀ N n T fr yb B, fwF M N → fwI N n T fr yb B n 0 → P (.inl none) N) : ∀ (m i : Nat) (N : mm_M) (n : Nat) (T : Nat → K4) (fr yb B : Nat → Nat) (l2 l3 : Option am_V), i + m = 11520 → fwF M N → fwI N n T fr yb B i 0 → i ≤ n → X 24 [some (aR 108), some (aI (nI i)), l2, l3] [] N := by
  intro m
  induction m with
  | zero =>
    intro i N n T fr yb B l2 l3 hi hF hI hin
    have n11 := hI.2.1.2.1
    obtain rfl : i = n := by omega
    refine am_run hX 4 _ _ _ _ ?_
    conv => whnf
    rw [hI.2.1.1]
    refine ⟨fun _ => ?_, fun z => absurd (nI_le (Nat.le_refl _) (by omega)) z⟩
    refine am_run hX 1 _ _ _ _ ?_
    conv => whnf
    exact ⟨trivial, hP N i T fr yb B hF hI⟩
  | succ m ih =>
    intro i N n T fr yb B l2 l3 hi hF hI hin
    have n11 := hI.2.1.2.1
    refine am_run hX 4 _ _ _ _ ?_
    conv => whnf
    rw [hI.2.1.1]
    by_cases e : i = n
    · subst e
      refine ⟨fun _ => ?_, fun z => absurd (nI_le (Nat.le_refl _) (by omega)) z⟩
      refine am_run hX 1 _ _ _ _ ?_
      conv => whnf
      exact ⟨trivial, hP N i T fr yb B hF hI⟩
    · refine ⟨fun z => absurd z (nI_ge (by omega) (by omega)), fun _ => ?_⟩
      refine am_run hX 2 _ _ _ _ ?_
      conv => whnf
      exact fw_g (d := d) (M := M) hX (fun N n T fr yb B a b c l2 l3 => ih (i + 1) N n T fr yb B l2 l3 (by omega) a b c) 5 0 N n T fr yb B _ (by omega) hF hI (by omega)
end SHI
