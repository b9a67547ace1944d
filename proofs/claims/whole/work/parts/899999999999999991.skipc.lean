/-! DIAGRAMS: skip at the class, pass at the reference -/
def skOK (inp : Nat) (W : WB) (a : Nat) : Prop := inW inp W a ∧ W.2.1 a = 0 ∧ dgW W a = 2 ∧ ∀ c e, nbW W a c e → 2 * inp ≤ e
def skW (W : WB) (a c e : Nat) : WB := jnW (rmW W a) c e (if W.2.2 a c = W.2.2 a e then 1 else 2)
def skV (inp : Nat) (W : WB) (p : Int32) (V : WB) : Prop := ∃ a c e, p = nI a ∧ skOK inp W a ∧ nbW W a c e ∧ V = skW W a c e
theorem nb_u {W : WB} {a c e c' e' : Nat} (h : nbW W a c e) (h' : nbW W a c' e') : c = c' ∧ e = e' := by
  have h1 := (h'.2 c).mp ((h.2 c).mpr (Or.inl rfl))
  have h2 := (h'.2 e).mp ((h.2 e).mpr (Or.inr rfl))
  have h3 := h.1
  have h4 := h'.1
  omega
section SKC
variable {d m inp : Nat} {N : mm_M} {W : WB}
theorem nb_v {a c e : Nat} (h : cwR N m inp W) (g : gdW m inp W) (ha : a < m) (hn : nbW W a c e) : ∀ i, i < 64 → (N.2 40 a ||| N.2 41 a).toBitVec.getLsbD i = decide (i = c ∨ i = e) := fun i hi => by
  have ⟨g1, g2⟩ := h.2.2.2.2 a ha i hi
  rw [or_b hi g1 g2 (g.2.2.2.2.2.2.2.2.1 a i), decide_eq_decide]
  exact hn.2 i
set_option maxRecDepth 100000 in
theorem sk_a {p : Int32} {Pp : am_Q} {X : am_X} (hX : am_K (d + 2) false nm_X10_skip Pp X) (h : cwR N m inp W) (g : gdW m inp W) (hN : ¬ (∃ a, p = nI a ∧ inW inp W a ∧ W.2.1 a = 0 ∧ dgW W a = 2) → X 37 [some (aR 39), some (aI p), none, none, none, none, none, none, none] [] N) (hK : ∀ a, p = nI a → inW inp W a → W.2.1 a = 0 → dgW W a = 2 → X 39 [some (aR 39), some (aI p), none, none, none, none, none, none, none] [] N) : X 0 [some (aR 39), some (aI p), none, none, none, none, none, none, none] [] N := by
  have m60 := g.1
  have g5 := g.2.2.2.2.1
  by_cases hp : ∃ i, inW inp W i ∧ p = nI i
  · refine am_run hX 4 _ _ _ _ ?_
    conv => whnf
    refine am_c1 (ct_inC (d := d) h g) ?_
    rw [iteC_t hp]
    conv => whnf
    refine ⟨fun c => absurd c (by decide), fun _ => ?_⟩
    obtain ⟨a, ia, rfl⟩ := hp
    have la := g5 a ia.1
    have un : ∀ a', nI a = nI a' → inW inp W a' → a' = a := fun a' e y => by
      have := g5 a' y.1
      exact ((nI_eq (by omega) (by omega)).mp e).symm
    have hA : vp_in (nI a) 60 := vp_in_nI (by omega) (by decide)
    have p8 := g.2.2.2.2.2.2.2.2.2.2 a ia.1
    refine am_run hX 5 _ _ _ _ ?_
    conv => whnf
    refine ⟨hA, ?_⟩
    conv => whnf
    rw [nI_clamp (n := a) (by omega), h.2.2.2.1 a ia.1]
    by_cases p0 : W.2.1 a = 0
    · rw [p0]
      refine ⟨fun c => absurd rfl c, fun _ => ?_⟩
      refine am_run hX 12 _ _ _ _ ?_
      conv => whnf
      refine ⟨hA, ?_⟩
      conv => whnf
      refine ⟨hA, ?_⟩
      conv => whnf
      rw [nI_clamp (n := a) (by omega)]
      refine am_c1 (ct_lbc _) ?_
      rw [dg_c h g la]
      have db : dgW W a ≤ 60 := by
        have : ∀ n, sm (fun j => if W.2.2 a j = 0 then 0 else 1) n ≤ n := fun n => by
          induction n with
          | zero => exact Nat.le_refl _
          | succ n ih =>
            show sm (fun j => if W.2.2 a j = 0 then 0 else 1) n + (if W.2.2 a n = 0 then 0 else 1) ≤ n + 1
            by_cases z : W.2.2 a n = 0
            · rw [if_pos z]; omega
            · rw [if_neg z]; omega
        exact this 60
      conv => whnf
      by_cases d2 : dgW W a = 2
      · rw [d2]
        exact ⟨fun _ => hK a rfl ia p0 d2, fun c => absurd rfl c⟩
      · refine ⟨fun c => absurd ((nI_eq (a := dgW W a) (b := 2) (by omega) (by decide)).mp c) d2, fun _ => ?_⟩
        refine hN fun ⟨a', e, y⟩ => d2 ?_
        rw [← un a' e y.1]
        exact y.2.2
    · refine ⟨fun _ => ?_, fun c => absurd (nI_ne0 (by omega) (by omega)) c⟩
      refine hN fun ⟨a', e, y⟩ => p0 ?_
      rw [← un a' e y.1]
      exact y.2.1
  · refine am_run hX 4 _ _ _ _ ?_
    conv => whnf
    refine am_c1 (ct_inC (d := d) h g) ?_
    rw [iteC_f hp]
    conv => whnf
    refine ⟨fun _ => ?_, fun c => absurd rfl c⟩
    exact hN fun ⟨a', e, y⟩ => hp ⟨a', y.1, e⟩
theorem lw_c {v : Int64} {c e : Nat} (hc : c < 64) (hv : ∀ i, i < 64 → v.toBitVec.getLsbD i = decide (i = c ∨ i = e)) (hce : c < e) : v &&& -v = bw c := by
  have v0 : ¬ v = 0 := fun z => by
    have := hv c hc
    rw [z, decide_eq_true (Or.inl rfl)] at this
    exact absurd this (by
      show ¬ (0 : Int64).toBitVec.getLsbD c = true
      show ¬ (0#64).getLsbD c = true
      rw [BitVec.getLsbD_zero]
      decide)
  obtain ⟨j, j64, j1, j2, j3⟩ := low64 v0
  rw [hv j j64] at j1
  have ej : j = c ∨ j = e := of_decide_eq_true j1
  have : j = c := by
    rcases ej with h | h
    · exact h
    · have := j2 c (by omega)
      rw [hv c hc, decide_eq_true (Or.inl rfl)] at this
      exact absurd this (by decide)
  rw [j3, this]
theorem lw_e {v : Int64} {c e : Nat} (he : e < 64) (hv : ∀ i, i < 64 → v.toBitVec.getLsbD i = decide (i = c ∨ i = e)) (hce : c < e) : (v &&& (v - 1)) &&& -(v &&& (v - 1)) = bw e := by
  have hr : ∀ i, i < 64 → (v &&& (v - 1)).toBitVec.getLsbD i = decide (i = e) := fun i hi => by
    rw [rst64 v i hi, hv i hi]
    by_cases e1 : i = e
    · rw [decide_eq_true (Or.inr e1), decide_eq_true e1, decide_eq_true ⟨c, by omega, by rw [hv c (by omega)]; exact decide_eq_true (Or.inl rfl)⟩]
      rfl
    · rw [decide_eq_false e1]
      by_cases e2 : i = c
      · rw [decide_eq_false (p := ∃ k, k < i ∧ v.toBitVec.getLsbD k = true), Bool.and_false]
        rintro ⟨k, k1, k2⟩
        rw [hv k (by omega)] at k2
        have := of_decide_eq_true k2
        omega
      · rw [decide_eq_false (p := i = c ∨ i = e) (by omega)]
        rfl
  generalize v &&& (v - 1) = r at *
  have v0 : ¬ r = 0 := fun z => by
    have := hr e he
    rw [z, decide_eq_true rfl] at this
    exact absurd this (by
      show ¬ (0#64).getLsbD e = true
      rw [BitVec.getLsbD_zero]
      decide)
  obtain ⟨j, j64, j1, j2, j3⟩ := low64 v0
  rw [hr j j64] at j1
  rw [j3, of_decide_eq_true j1]
set_option maxRecDepth 100000 in
theorem sk_b {a c e : Nat} {Pp : am_Q} {X : am_X} (hX : am_K (d + 2) false nm_X10_skip Pp X) (h : cwR N m inp W) (g : gdW m inp W) (la : a < m) (hn : nbW W a c e) (hN : ¬ 2 * inp ≤ e → Pp (.inl (some (aI 0))) N) (hK : 2 * inp ≤ e → X 70 [some (aR 39), some (aI (nI a)), some (aJ (N.2 40 a ||| N.2 41 a)), none, none, none, none, none, none] [] N) : X 39 [some (aR 39), some (aI (nI a)), none, none, none, none, none, none, none] [] N := by
  have m60 := g.1
  have hA : vp_in (nI a) 60 := vp_in_nI (by omega) (by decide)
  have te := (g.2.2.2.2.2.2.2.2.2.1 a e ((hn.2 e).mpr (Or.inr rfl))).2
  have le := g.2.2.2.2.1 e te
  have hv := nb_v h g la hn
  refine am_run hX 10 _ _ _ _ ?_
  conv => whnf
  refine ⟨hA, ?_⟩
  conv => whnf
  refine ⟨hA, ?_⟩
  conv => whnf
  rw [nI_clamp (n := a) (by omega)]
  refine am_run hX 9 _ _ _ _ ?_
  conv => whnf
  refine am_c1 (ct_out (d := d + 1) h) ?_
  conv => whnf
  rw [lg_0]
  have bits : ∀ i, i < 64 → ((N.2 40 a ||| N.2 41 a) &&& (outJ inp ^^^ -1)).toBitVec.getLsbD i = (decide (i = c ∨ i = e) && decide (2 * inp ≤ i)) := fun i hi => by
    rw [Int64.toBitVec_and, BitVec.getLsbD_and, hv i hi, outn_b g.2.2.1 hi]
  by_cases h2 : 2 * inp ≤ e
  · refine ⟨fun _ => hK h2, fun z => ?_⟩
    have z := Decidable.byContradiction z
    have := bits e (by omega)
    rw [z, decide_eq_true (Or.inr rfl), decide_eq_true h2] at this
    exact absurd this (by
      show ¬ (0#64).getLsbD e = true
      rw [BitVec.getLsbD_zero]
      decide)
  · have hce := hn.1
    have z : (N.2 40 a ||| N.2 41 a) &&& (outJ inp ^^^ -1) = 0 := by
      rw [l_0]
      intro i
      by_cases hi : i < 64
      · rw [bits i hi]
        by_cases e1 : i = c ∨ i = e
        · rw [decide_eq_false (p := 2 * inp ≤ i) (by omega), Bool.and_false]
        · rw [decide_eq_false e1]
          rfl
      · exact BitVec.getLsbD_of_ge _ _ (by omega)
    refine ⟨fun y => absurd z y, fun _ => ?_⟩
    refine am_run hX 2 _ _ _ _ ?_
    conv => whnf
    exact ⟨rfl, hN h2⟩
set_option maxRecDepth 100000 in
theorem sk_c1 {v : Int64} {a c : Nat} {Pp : am_Q} {X : am_X} (hX : am_K (d + 2) false nm_X10_skip Pp X) (k1 : am_M (d + 2) false nm_J13_bitCount_95d88 [aJ ((v &&& -v) - 1)] N (am_q1 (aI (nI c)) N)) (hK : X 88 [some (aR 39), some (aI (nI a)), some (aJ v), none, some (aI (nI c)), some (aJ (v &&& (v - 1))), none, none, none] [] N) : X 70 [some (aR 39), some (aI (nI a)), some (aJ v), none, none, none, none, none, none] [] N := by
  refine am_run hX 8 _ _ _ _ ?_
  conv => whnf
  refine am_c1 k1 ?_
  conv => whnf
  refine am_run hX 6 _ _ _ _ ?_
  conv => whnf
  exact hK
set_option maxRecDepth 100000 in
theorem sk_c2 {v r : Int64} {a c e : Nat} {Pp : am_Q} {X : am_X} (hX : am_K (d + 2) false nm_X10_skip Pp X) (k1 : am_M (d + 2) false nm_J13_bitCount_95d88 [aJ ((r &&& -r) - 1)] N (am_q1 (aI (nI e)) N)) (hK : X 101 [some (aR 39), some (aI (nI a)), some (aJ v), none, some (aI (nI c)), some (aJ r), none, some (aI (nI e)), none] [] N) : X 88 [some (aR 39), some (aI (nI a)), some (aJ v), none, some (aI (nI c)), some (aJ r), none, none, none] [] N := by
  refine am_run hX 8 _ _ _ _ ?_
  conv => whnf
  refine am_c1 k1 ?_
  conv => whnf
  exact hK
theorem ct_lw {c : Nat} {x : Int64} (hc : c < 64) (h : x = bw c) : am_M (d + 1) false nm_J13_bitCount_95d88 [aJ (x - 1)] N (am_q1 (aI (nI c)) N) := by
  rw [← lbc_low c hc, ← h]
  exact ct_lbc _
theorem sk_c {v : Int64} {a c e : Nat} {Pp : am_Q} {X : am_X} (hX : am_K (d + 2) false nm_X10_skip Pp X) (hv : ∀ i, i < 64 → v.toBitVec.getLsbD i = decide (i = c ∨ i = e)) (hce : c < e) (he : e < 64) (hK : ∀ r, X 101 [some (aR 39), some (aI (nI a)), some (aJ v), none, some (aI (nI c)), some (aJ r), none, some (aI (nI e)), none] [] N) : X 70 [some (aR 39), some (aI (nI a)), some (aJ v), none, none, none, none, none, none] [] N := sk_c1 (d := d) hX (ct_lw (by omega) (lw_c (by omega) hv hce)) (sk_c2 (d := d) hX (ct_lw he (lw_e he hv hce)) (hK _))
set_option maxRecDepth 100000 in
theorem sk_d {v r0 : Int64} {a c e : Nat} {Pp : am_Q} {X : am_X} (hX : am_K (d + 2) false nm_X10_skip Pp X) (h : cwR N m inp W) (g : gdW m inp W) (ia : inW inp W a) (hn : nbW W a c e) (hP : ∀ N', cwF N N' → N'.1 39 9 = -1 → cwR N' m inp (skW W a c e) → Pp (.inl (some (aI 1))) N') : X 101 [some (aR 39), some (aI (nI a)), some (aJ v), none, some (aI (nI c)), some (aJ r0), none, some (aI (nI e)), none] [] N := by
  have m60 := g.1
  have la := g.2.2.2.2.1 a ia.1
  have ec := (hn.2 c).mpr (Or.inl rfl)
  have ee := (hn.2 e).mpr (Or.inr rfl)
  have lc := g.2.2.2.2.1 c (g.2.2.2.2.2.2.2.2.2.1 a c ec).2
  have le := g.2.2.2.2.1 e (g.2.2.2.2.2.2.2.2.2.1 a e ee).2
  have hce := hn.1
  have g2 := g.2.2.2.2.2.2.2.2.1
  have b1 := g2 a c
  have b2 := g2 a e
  have gr := gd_rm g ia.2
  have fin : ∀ t, t < 2 → t + 1 = (if W.2.2 a c = W.2.2 a e then 1 else 2) → X 123 [some (aR 39), some (aI (nI a)), some (aJ v), none, some (aI (nI c)), some (aJ r0), none, some (aI (nI e)), none] [aI (nI t)] N := fun t ht et => by
    refine am_run hX 4 _ _ _ _ ?_
    conv => whnf
    refine am_cq (ct_rmC (d := d) h g la) ?_
    rintro r N1 ⟨rfl, f1, f2, h1⟩
    refine ⟨none, rfl, ?_⟩
    conv => whnf
    refine am_run hX 7 _ _ _ _ ?_
    conv => whnf
    refine am_cq (ct_jnC (d := d) (a := c) (b := e) (t := t) h1 m60 (gr.2.2.2.2.2.2.2.2.1 c e) (gr.2.2.2.2.2.2.1 e c) (by omega) lc le ht) ?_
    rintro r N2 ⟨rfl, f3, h3⟩
    refine ⟨none, rfl, ?_⟩
    conv => whnf
    refine ⟨rfl, hP N2 (cwF_t f1 f3.1) (by rw [f3.2]; exact f2) ?_⟩
    unfold skW
    rw [← et]
    exact h3
  refine am_run hX 9 _ _ _ _ ?_
  conv => whnf
  refine am_c1 (ct_ekC (d := d + 1) h m60 b1 la (by omega)) ?_
  conv => whnf
  refine am_c1 (ct_ekC (d := d + 1) h m60 b2 la (by omega)) ?_
  conv => whnf
  by_cases eq : W.2.2 a c = W.2.2 a e
  · refine ⟨fun _ => ?_, fun z => absurd (by rw [eq]) z⟩
    refine am_run hX 1 _ _ _ _ ?_
    conv => whnf
    exact fin 0 (by decide) (by rw [if_pos eq])
  · refine ⟨fun z => absurd ((nI_eq (by omega) (by omega)).mp z) eq, fun _ => ?_⟩
    refine am_run hX 2 _ _ _ _ ?_
    conv => whnf
    exact fin 1 (by decide) (by rw [if_neg eq])
set_option maxRecDepth 100000 in
theorem ct_skC {p : Int32} (h : cwR N m inp W) (g : gdW m inp W) : am_M (d + 3) false nm_X10_skip [aR 39, aI p] N (ruC N m inp (∃ a, p = nI a ∧ skOK inp W a) (skV inp W p)) := by
  have m60 := g.1
  refine ⟨rfl, rfl, rfl, fun X hX => sk_a (d := d) hX h g (fun hno => ?_) (fun a ea ia p0 d2 => ?_)⟩
  · refine am_run hX 2 _ _ _ _ ?_
    conv => whnf
    exact ⟨rfl, Or.inl ⟨fun ⟨a, e, y⟩ => hno ⟨a, e, y.1, y.2.1, y.2.2.1⟩, rfl, rfl⟩⟩
  · subst ea
    have la := g.2.2.2.2.1 a ia.1
    obtain ⟨c, e, hn⟩ := dg_2 g d2
    have le := g.2.2.2.2.1 e (g.2.2.2.2.2.2.2.2.2.1 a e ((hn.2 e).mpr (Or.inr rfl))).2
    refine sk_b (d := d) hX h g la hn (fun hno => ?_) (fun h2 => ?_)
    · refine Or.inl ⟨fun ⟨a', e', y⟩ => hno ?_, rfl, rfl⟩
      have := g.2.2.2.2.1 a' y.1.1
      rw [← (nI_eq (by omega) (by omega)).mp e'] at y
      exact y.2.2.2 c e hn
    · have ok : skOK inp W a := ⟨ia, p0, d2, fun c' e' hn' => by rw [← (nb_u hn hn').2]; exact h2⟩
      exact sk_c (d := d) hX (nb_v h g la hn) hn.1 (by omega) fun r0 => sk_d (d := d) hX h g ia hn fun N' f1 f2 h' => Or.inr ⟨⟨a, rfl, ok⟩, rfl, f1, f2, _, ⟨a, c, e, rfl, ok, hn, rfl⟩, h'⟩
end SKC
