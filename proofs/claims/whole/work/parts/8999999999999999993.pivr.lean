/-! DIAGRAMS: pivot at the reference -/
section PVR
variable {d m inp a b i : Nat} {N : mm_M} {W : WB}
set_option maxRecDepth 100000 in
theorem sr_2nd {v : Nat} {Pp : am_Q} {X : am_X} (hX : am_K (d + 1) false nm_X12_sideOf Pp X) (h : rwR N inp W) (h2 : ∀ i j, W.2.2 i j ≤ 2) (li : i < 60) (lb : b < 60) (hP : Pp (.inl (some (aI (nI (v + if W.2.2 i b = 0 then 0 else 2))))) N) : X 28 [some (aR 108), some (aI (nI i)), some (aI (nI a)), some (aI (nI b))] [aI (nI v)] N := by
  have e2 := h2 i b
  refine am_run hX 5 _ _ _ _ ?_
  conv => whnf
  refine am_c1 (ct_ekR (d := d) h li lb) ?_
  conv => whnf
  by_cases z : W.2.2 i b = 0
  · rw [if_pos z] at hP
    rw [z]
    refine ⟨fun _ => ?_, fun c => absurd rfl c⟩
    refine am_run hX 3 _ _ _ _ ?_
    conv => whnf
    rw [show (0 : Int32) = nI 0 from rfl, nI_add]
    exact ⟨trivial, hP⟩
  · rw [if_neg z] at hP
    refine ⟨fun c => absurd c (nI_ne0 (by omega) (by omega)), fun _ => ?_⟩
    refine am_run hX 4 _ _ _ _ ?_
    conv => whnf
    rw [show (2 : Int32) = nI 2 from rfl, nI_add]
    exact ⟨trivial, hP⟩
set_option maxRecDepth 100000 in
theorem ct_sdR (h : rwR N inp W) (h2 : ∀ i j, W.2.2 i j ≤ 2) (li : i < 60) (la : a < 60) (lb : b < 60) : am_M (d + 2) false nm_X12_sideOf [aR 108, aI (nI i), aI (nI a), aI (nI b)] N (am_q1 (aI (nI (sdW W a b i))) N) := by
  refine ⟨rfl, rfl, rfl, fun X hX => ?_⟩
  have e2 := h2 i a
  have k10 : (i = a ∨ i = b) → X 10 [some (aR 108), some (aI (nI i)), some (aI (nI a)), some (aI (nI b))] [] N := fun he => by
    refine am_run hX 3 _ _ _ _ ?_
    conv => whnf
    refine ⟨trivial, ?_, rfl⟩
    rw [show sdW W a b i = 0 from if_pos he]
    rfl
  refine am_run hX 3 _ _ _ _ ?_
  conv => whnf
  by_cases e : i = a
  · exact ⟨fun _ => k10 (Or.inl e), fun c => absurd (by rw [e]) c⟩
  refine ⟨fun c => absurd ((nI_eq (by omega) (by omega)).mp c) e, fun _ => ?_⟩
  refine am_run hX 3 _ _ _ _ ?_
  conv => whnf
  by_cases e' : i = b
  · exact ⟨fun c => absurd (by rw [e']) c, fun _ => k10 (Or.inr e')⟩
  refine ⟨fun _ => ?_, fun c => absurd (fun z => e' ((nI_eq (by omega) (by omega)).mp z)) c⟩
  have es : sdW W a b i = (if W.2.2 i a = 0 then 0 else 1) + (if W.2.2 i b = 0 then 0 else 2) := if_neg (fun z => z.elim e e')
  refine am_run hX 5 _ _ _ _ ?_
  conv => whnf
  refine am_c1 (ct_ekR (d := d) h li la) ?_
  conv => whnf
  by_cases z : W.2.2 i a = 0
  · rw [if_pos z] at es
    rw [z]
    refine ⟨fun _ => ?_, fun c => absurd rfl c⟩
    refine am_run hX 1 _ _ _ _ ?_
    conv => whnf
    exact sr_2nd (d := d) (v := 0) hX h h2 li lb ⟨by rw [es], rfl⟩
  · rw [if_neg z] at es
    refine ⟨fun c => absurd c (nI_ne0 (by omega) (by omega)), fun _ => ?_⟩
    refine am_run hX 2 _ _ _ _ ?_
    conv => whnf
    exact sr_2nd (d := d) (v := 1) hX h h2 li lb ⟨by rw [es], rfl⟩
/-- the DIAGRAM within the loop -/
def prW (W : WB) (a b : Nat) (D : Nat → Nat → Bool) (i : Nat) : WB := (W.1, pvP W.2.1 (amW W a b) i, tgE W.2.2 D)
/-- pairs that are joined: of two sides -/
def okD (W : WB) (a b : Nat) (D : Nat → Nat → Bool) : Prop := (∀ x y, D x y = D y x) ∧ ∀ x y, D x y = true → dfS (sdW W a b) x y
theorem okD_r {j : Nat} : okD W a b (Dr (sdW W a b) i j) := by
  refine ⟨fun x y => ?_, fun x y h => (of_decide_eq_true h).1⟩
  unfold Dr
  rw [decide_eq_decide]
  constructor
  · rintro ⟨⟨h1, h2, h3⟩, h | h | h | h⟩
    · exact ⟨⟨h2, h1, fun z => h3 z.symm⟩, Or.inr (Or.inl h)⟩
    · exact ⟨⟨h2, h1, fun z => h3 z.symm⟩, Or.inl h⟩
    · exact ⟨⟨h2, h1, fun z => h3 z.symm⟩, Or.inr (Or.inr (Or.inr h))⟩
    · exact ⟨⟨h2, h1, fun z => h3 z.symm⟩, Or.inr (Or.inr (Or.inl h))⟩
  · rintro ⟨⟨h1, h2, h3⟩, h | h | h | h⟩
    · exact ⟨⟨h2, h1, fun z => h3 z.symm⟩, Or.inr (Or.inl h)⟩
    · exact ⟨⟨h2, h1, fun z => h3 z.symm⟩, Or.inl h⟩
    · exact ⟨⟨h2, h1, fun z => h3 z.symm⟩, Or.inr (Or.inr (Or.inr h))⟩
    · exact ⟨⟨h2, h1, fun z => h3 z.symm⟩, Or.inr (Or.inr (Or.inl h))⟩
theorem pr_gd {D : Nat → Nat → Bool} {n : Nat} (g : gdW m inp W) (hD : okD W a b D) : gdW m inp (prW W a b D n) := by
  refine gd_tg ?_ hD.1 fun x y h => ?_
  · obtain ⟨h1, h2, h3, h4, h5, h6, h7, h8, h9, h10, h11⟩ := g
    refine ⟨h1, h2, h3, h4, h5, h6, h7, h8, h9, h10, fun x hx => ?_⟩
    show pvP W.2.1 (amW W a b) n x < 8
    unfold pvP
    by_cases e : x < n
    · rw [if_pos e]
      exact Nat.mod_lt _ (by decide)
    · rw [if_neg e]
      exact h11 x hx
  · have := hD.2 x y h
    exact ⟨nx_T g (sd_nx.mp this.1), nx_T g (sd_nx.mp this.2.1), fun z => this.2.2 (by rw [z])⟩
theorem okD_a {D : Nat → Nat → Bool} (hD : okD W a b D) (x : Nat) : D x a = false ∧ D x b = false := by
  refine ⟨?_, ?_⟩
  · cases h : D x a with
    | false => rfl
    | true => exact absurd sd_a (hD.2 x a h).2.1
  · cases h : D x b with
    | false => rfl
    | true => exact absurd sd_b (hD.2 x b h).2.1
theorem sd_pr {D : Nat → Nat → Bool} {n x : Nat} (hD : okD W a b D) : sdW (prW W a b D n) a b x = sdW W a b x := by
  unfold sdW
  rw [show (prW W a b D n).2.2 x a = W.2.2 x a from tg_f (okD_a hD x).1, show (prW W a b D n).2.2 x b = W.2.2 x b from tg_f (okD_a hD x).2]
theorem ph_pr {D : Nat → Nat → Bool} {n x : Nat} (g : gdW m inp W) (hx : W.1 x = true) (h : sdW W a b x = 0) : (prW W a b D n).2.1 x = W.2.1 x := by
  show pvP W.2.1 (amW W a b) n x = W.2.1 x
  unfold pvP
  have := g.2.2.2.2.2.2.2.2.2.2 x hx
  by_cases e : x < n
  · rw [if_pos e, amW_0 h]
    exact Nat.mod_eq_of_lt (by omega)
  · rw [if_neg e]
theorem Dr_s {s : Nat → Nat} {j : Nat} (hji : j < i) (h : dfS s i j) : ∀ x y, Dr s i (j + 1) x y = (Dr s i j x y || decide ((x = i ∧ y = j) ∨ (x = j ∧ y = i))) := fun x y => by
  unfold Dr
  rw [← Bool.decide_or, decide_eq_decide]
  constructor
  · rintro ⟨hd, k | k | ⟨k1, k2, k3⟩ | ⟨k1, k2, k3⟩⟩
    · exact Or.inl ⟨hd, Or.inl k⟩
    · exact Or.inl ⟨hd, Or.inr (Or.inl k)⟩
    · by_cases e : y = j
      · exact Or.inr (Or.inl ⟨k1, e⟩)
      · exact Or.inl ⟨hd, Or.inr (Or.inr (Or.inl ⟨k1, Nat.lt_of_le_of_ne (Nat.le_of_lt_succ k2) e, k3⟩))⟩
    · by_cases e : x = j
      · exact Or.inr (Or.inr ⟨e, k1⟩)
      · exact Or.inl ⟨hd, Or.inr (Or.inr (Or.inr ⟨k1, Nat.lt_of_le_of_ne (Nat.le_of_lt_succ k2) e, k3⟩))⟩
  · rintro (⟨hd, k | k | ⟨k1, k2, k3⟩ | ⟨k1, k2, k3⟩⟩ | (⟨e1, e2⟩ | ⟨e1, e2⟩))
    · exact ⟨hd, Or.inl k⟩
    · exact ⟨hd, Or.inr (Or.inl k)⟩
    · exact ⟨hd, Or.inr (Or.inr (Or.inl ⟨k1, Nat.lt_succ_of_lt k2, k3⟩))⟩
    · exact ⟨hd, Or.inr (Or.inr (Or.inr ⟨k1, Nat.lt_succ_of_lt k2, k3⟩))⟩
    · rw [e1, e2]
      exact ⟨h, Or.inr (Or.inr (Or.inl ⟨rfl, Nat.lt_succ_self _, hji⟩))⟩
    · rw [e1, e2]
      exact ⟨⟨h.2.1, h.1, fun z => h.2.2 z.symm⟩, Or.inr (Or.inr (Or.inr ⟨rfl, Nat.lt_succ_self _, hji⟩))⟩
theorem Dr_n {s : Nat → Nat} {j : Nat} (h : ¬ dfS s i j) : ∀ x y, Dr s i (j + 1) x y = Dr s i j x y := fun x y => by
  unfold Dr
  rw [decide_eq_decide]
  constructor
  · rintro ⟨hd, k | k | ⟨k1, k2, k3⟩ | ⟨k1, k2, k3⟩⟩
    · exact ⟨hd, Or.inl k⟩
    · exact ⟨hd, Or.inr (Or.inl k)⟩
    · refine ⟨hd, Or.inr (Or.inr (Or.inl ⟨k1, Nat.lt_of_le_of_ne (Nat.le_of_lt_succ k2) fun e => ?_, k3⟩))⟩
      rw [k1, e] at hd
      exact h hd
    · refine ⟨hd, Or.inr (Or.inr (Or.inr ⟨k1, Nat.lt_of_le_of_ne (Nat.le_of_lt_succ k2) fun e => ?_, k3⟩))⟩
      rw [k1, e] at hd
      exact h ⟨hd.2.1, hd.1, fun z => hd.2.2 z.symm⟩
  · rintro ⟨hd, k | k | ⟨k1, k2, k3⟩ | ⟨k1, k2, k3⟩⟩
    · exact ⟨hd, Or.inl k⟩
    · exact ⟨hd, Or.inr (Or.inl k)⟩
    · exact ⟨hd, Or.inr (Or.inr (Or.inl ⟨k1, Nat.lt_succ_of_lt k2, k3⟩))⟩
    · exact ⟨hd, Or.inr (Or.inr (Or.inr ⟨k1, Nat.lt_succ_of_lt k2, k3⟩))⟩
theorem Dr_e {s : Nat → Nat} : ∀ x y, Dr s (i + 1) 0 x y = Dr s i i x y := fun x y => by
  unfold Dr
  rw [decide_eq_decide]
  constructor
  · rintro ⟨hd, ⟨k1, k2⟩ | ⟨k1, k2⟩ | ⟨_, k, _⟩ | ⟨_, k, _⟩⟩
    · by_cases e : x = i
      · exact ⟨hd, Or.inr (Or.inr (Or.inl ⟨e, by omega, by omega⟩))⟩
      · exact ⟨hd, Or.inl ⟨by omega, k2⟩⟩
    · by_cases e : y = i
      · exact ⟨hd, Or.inr (Or.inr (Or.inr ⟨e, by omega, by omega⟩))⟩
      · exact ⟨hd, Or.inr (Or.inl ⟨by omega, k2⟩)⟩
    · exact absurd k (Nat.not_lt_zero _)
    · exact absurd k (Nat.not_lt_zero _)
  · rintro ⟨hd, ⟨k1, k2⟩ | ⟨k1, k2⟩ | ⟨k1, k2, k3⟩ | ⟨k1, k2, k3⟩⟩
    · exact ⟨hd, Or.inl ⟨Nat.lt_succ_of_lt k1, k2⟩⟩
    · exact ⟨hd, Or.inr (Or.inl ⟨Nat.lt_succ_of_lt k1, k2⟩)⟩
    · exact ⟨hd, Or.inl ⟨by rw [k1]; exact Nat.lt_succ_self _, by rw [k1]; exact k3⟩⟩
    · exact ⟨hd, Or.inr (Or.inl ⟨by rw [k1]; exact Nat.lt_succ_self _, by rw [k1]; exact k3⟩)⟩
theorem Dr_0 {s : Nat → Nat} (h : s i = 0) : ∀ j x y, Dr s i j x y = Dr s i 0 x y
  | 0, _, _ => rfl
  | j + 1, x, y => by
    rw [Dr_n (fun z => z.1 h)]
    exact Dr_0 h j x y
set_option maxRecDepth 100000 in
theorem pr_j {N0 : mm_M} {Pp : am_Q} {X : am_X} (hX : am_K (d + 2) false nm_X12_pivot Pp X) (g : gdW m inp W) (la : a < 60) (lb : b < 60) (hn : npP W a b) (hi : i < 60) (hs : sdW W a b i ≠ 0) (hK : ∀ N l5 l6, rwF N0 N → rwR N inp (prW W a b (Dr (sdW W a b) i i) (i + 1)) → X 209 [some (aR 108), some (aI (nI a)), some (aI (nI b)), some (aI (nI i)), some (aI (nI (sdW W a b i))), l5, l6] [] N) : ∀ w j N l6, j + w = i → rwF N0 N → rwR N inp (prW W a b (Dr (sdW W a b) i j) (i + 1)) → X 162 [some (aR 108), some (aI (nI a)), some (aI (nI b)), some (aI (nI i)), some (aI (nI (sdW W a b i))), some (aI (nI j)), l6] [] N := by
  have s3 := sd_le (W := W) (a := a) (b := b) (x := i)
  intro w
  induction w with
  | zero =>
    intro j N l6 hj hf h
    have hj : j = i := by omega
    subst hj
    refine am_run hX 3 _ _ _ _ ?_
    conv => whnf
    exact ⟨fun _ => hK N _ _ hf h, fun c => absurd (nI_le (by omega) (by omega)) c⟩
  | succ w ih =>
    intro j N l6 hj hf h
    have gj := pr_gd (n := i + 1) g (okD_r (W := W) (a := a) (b := b) (i := i) (j := j))
    have k := ct_sdR (d := d) (i := j) (a := a) (b := b) h gj.2.2.2.2.2.2.2.2.1 (by omega) la lb
    rw [sd_pr okD_r] at k
    have sj3 := sd_le (W := W) (a := a) (b := b) (x := j)
    have nx : ∀ N' l6, rwF N0 N' → rwR N' inp (prW W a b (Dr (sdW W a b) i (j + 1)) (i + 1)) → X 203 [some (aR 108), some (aI (nI a)), some (aI (nI b)), some (aI (nI i)), some (aI (nI (sdW W a b i))), some (aI (nI j)), l6] [] N' := fun N' l6 f' h' => by
      refine am_run hX 2 _ _ _ _ ?_
      conv => whnf
      rw [nI_1]
      exact ih (j + 1) N' _ (by omega) f' h'
    have no : ¬ dfS (sdW W a b) i j → ∀ l6, X 203 [some (aR 108), some (aI (nI a)), some (aI (nI b)), some (aI (nI i)), some (aI (nI (sdW W a b i))), some (aI (nI j)), l6] [] N := fun hq l6 => by
      refine nx N l6 hf ?_
      have e : prW W a b (Dr (sdW W a b) i (j + 1)) (i + 1) = prW W a b (Dr (sdW W a b) i j) (i + 1) := by
        show (_, _, tgE _ _) = (_, _, tgE _ _)
        rw [tg_c (Dr_n hq)]
      rw [e]
      exact h
    refine am_run hX 3 _ _ _ _ ?_
    conv => whnf
    refine ⟨fun c => absurd c (nI_ge (by omega) (by omega)), fun _ => ?_⟩
    refine am_run hX 2 _ _ _ _ ?_
    conv => whnf
    refine ⟨fun c => absurd c (nI_ge (a := 0) (by omega) (by omega)), fun _ => ?_⟩
    refine am_run hX 6 _ _ _ _ ?_
    conv => whnf
    refine am_c1 k ?_
    conv => whnf
    refine am_run hX 2 _ _ _ _ ?_
    conv => whnf
    by_cases z : sdW W a b j = 0
    · rw [z]
      exact ⟨fun _ => no (fun y => y.2.1 z) _, fun c => absurd (by decide) c⟩
    · refine ⟨fun c => absurd c (nI_ge (a := 0) (by omega) (by omega)), fun _ => ?_⟩
      refine am_run hX 3 _ _ _ _ ?_
      conv => whnf
      by_cases zz : sdW W a b j = sdW W a b i
      · exact ⟨fun _ => no (fun y => y.2.2 zz.symm) _, fun c => absurd (by rw [zz]) c⟩
      · refine ⟨fun c => absurd ((nI_eq (by omega) (by omega)).mp c) zz, fun _ => ?_⟩
        have hd : dfS (sdW W a b) i j := ⟨hs, z, fun y => zz y.symm⟩
        refine am_run hX 5 _ _ _ _ ?_
        conv => whnf
        refine am_cq (ct_jnR (d := d) (a := i) (b := j) (v := 2) h (gj.2.2.2.2.2.2.2.2.1 i j) hi (by omega) (Or.inr rfl)) ?_
        rintro r N' ⟨rfl, f', h'⟩
        refine ⟨none, rfl, ?_⟩
        conv => whnf
        refine nx N' _ (rwF_t hf f') ?_
        have n1 := sd_nx.mp hs
        have n2 := sd_nx.mp z
        have f1 : Dr (sdW W a b) i j i j = false := decide_eq_false (by
          rintro ⟨_, k | k | k | k⟩
          · omega
          · omega
          · omega
          · omega)
        have e := jn_tg (T := W.1) (ph := pvP W.2.1 (amW W a b) (i + 1)) (E := W.2.2) (D := Dr (sdW W a b) i j) (D' := Dr (sdW W a b) i (j + 1)) (i := i) (j := j) f1 (by rw [okD_r.1]; exact f1) (by
          have := nx_E g hn n1 n2
          rw [rm2_E n1.1 n1.2.1 n2.1 n2.2.1] at this
          exact this) (g.2.2.2.2.2.2.1 j i) (Dr_s (by omega) hd)
        have e : jnW (prW W a b (Dr (sdW W a b) i j) (i + 1)) i j 2 = prW W a b (Dr (sdW W a b) i (j + 1)) (i + 1) := e
        rw [← e]
        exact h'
end PVR
