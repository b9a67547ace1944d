/-! DIAGRAMS: pass at the reference -/
section PSR
variable {d m inp : Nat} {N : mm_M} {W : WB}
set_option maxRecDepth 100000 in
theorem ps_a {p : Int32} {Pp : am_Q} {X : am_X} (hX : am_K (d + 2) false nm_X12_pass Pp X) (h : rwR N inp W) (g : gdW m inp W) (hN : ¬ (∃ a, p = nI a ∧ inW inp W a ∧ W.2.1 a = 0 ∧ dgW W a = 2) → X 26 [some (aR 108), some (aI p), none, none, none] [] N) (hK : ∀ a, p = nI a → inW inp W a → W.2.1 a = 0 → dgW W a = 2 → X 28 [some (aR 108), some (aI p), none, none, none] [] N) : X 0 [some (aR 108), some (aI p), none, none, none] [] N := by
  have m60 := g.1
  have g5 := g.2.2.2.2.1
  by_cases hp : ∃ i, inW inp W i ∧ p = nI i
  · refine am_run hX 4 _ _ _ _ ?_
    conv => whnf
    refine am_c1 (ct_inR (d := d) h g) ?_
    rw [iteC_t hp]
    conv => whnf
    refine ⟨fun c => absurd c (by decide), fun _ => ?_⟩
    obtain ⟨a, ia, rfl⟩ := hp
    have la := g5 a ia.1
    have un : ∀ a', nI a = nI a' → inW inp W a' → a' = a := fun a' e y => by
      have := g5 a' y.1
      exact ((nI_eq (by omega) (by omega)).mp e).symm
    have hA : vp_in (nI a) 60 := vp_in_nI (by omega) (by decide)
    have p8 := g.2.2.2.2.2.2.2.2.2.2 a ia.1
    refine am_run hX 5 _ _ _ _ ?_
    conv => whnf
    refine ⟨hA, ?_⟩
    conv => whnf
    rw [nI_clamp (n := a) (by omega), h.2.2.2.1 a ia.1]
    by_cases p0 : W.2.1 a = 0
    · rw [p0]
      refine ⟨fun c => absurd rfl c, fun _ => ?_⟩
      refine am_run hX 5 _ _ _ _ ?_
      conv => whnf
      refine am_c1 (ct_dgR (d := d) h (fun j => g.2.2.2.2.2.2.2.2.1 a j) (by omega)) ?_
      have db : dgW W a ≤ 60 := by
        have : ∀ n, sm (fun j => if W.2.2 a j = 0 then 0 else 1) n ≤ n := fun n => by
          induction n with
          | zero => exact Nat.le_refl _
          | succ n ih =>
            show sm (fun j => if W.2.2 a j = 0 then 0 else 1) n + (if W.2.2 a n = 0 then 0 else 1) ≤ n + 1
            by_cases z : W.2.2 a n = 0
            · rw [if_pos z]; omega
            · rw [if_neg z]; omega
        exact this 60
      conv => whnf
      by_cases d2 : dgW W a = 2
      · rw [d2]
        exact ⟨fun _ => hK a rfl ia p0 d2, fun c => absurd rfl c⟩
      · refine ⟨fun c => absurd ((nI_eq (a := dgW W a) (b := 2) (by omega) (by decide)).mp c) d2, fun _ => ?_⟩
        refine hN fun ⟨a', e, y⟩ => d2 ?_
        rw [← un a' e y.1]
        exact y.2.2
    · refine ⟨fun _ => ?_, fun c => absurd (nI_ne0 (by omega) (by omega)) c⟩
      refine hN fun ⟨a', e, y⟩ => p0 ?_
      rw [← un a' e y.1]
      exact y.2.1
  · refine am_run hX 4 _ _ _ _ ?_
    conv => whnf
    refine am_c1 (ct_inR (d := d) h g) ?_
    rw [iteC_f hp]
    conv => whnf
    refine ⟨fun _ => ?_, fun c => absurd rfl c⟩
    exact hN fun ⟨a', e, y⟩ => hp ⟨a', y.1, e⟩
set_option maxRecDepth 100000 in
theorem ps_c {a c e : Nat} {Pp : am_Q} {X : am_X} (hX : am_K (d + 2) false nm_X12_pass Pp X) (h : rwR N inp W) (g : gdW m inp W) (la : a < m) (lc : c < m) (hn : nbW W a c e) (hK : X 45 [some (aR 108), some (aI (nI a)), some (aI (nI c)), none, none] [] N) : ∀ w i, i + w = c → X 30 [some (aR 108), some (aI (nI a)), some (aI (nI i)), none, none] [] N := by
  have m60 := g.1
  intro w
  induction w with
  | zero =>
    intro i hi
    have hi : i = c := by omega
    subst hi
    have ez := (hn.2 i).mpr (Or.inl rfl)
    have e2 := g.2.2.2.2.2.2.2.2.1 a i
    refine am_run hX 5 _ _ _ _ ?_
    conv => whnf
    refine am_c1 (ct_ekR (d := d + 1) h (by omega) (by omega)) ?_
    conv => whnf
    exact ⟨fun _ => hK, fun z => absurd (nI_ne0 (by omega) (by omega)) z⟩
  | succ w ih =>
    intro i hi
    have hce := hn.1
    have z0 : W.2.2 a i = 0 := Decidable.byContradiction fun z => by
      have := (hn.2 i).mp z
      omega
    have k := ct_ekR (d := d + 1) (i := a) (j := i) h (by omega) (by omega)
    rw [z0] at k
    refine am_run hX 5 _ _ _ _ ?_
    conv => whnf
    refine am_c1 k ?_
    conv => whnf
    refine ⟨fun z => absurd rfl z, fun _ => ?_⟩
    refine am_run hX 2 _ _ _ _ ?_
    conv => whnf
    rw [nI_1]
    exact ih (i + 1) (by omega)
set_option maxRecDepth 100000 in
theorem ps_e {a c e : Nat} {Pp : am_Q} {X : am_X} (hX : am_K (d + 2) false nm_X12_pass Pp X) (h : rwR N inp W) (g : gdW m inp W) (la : a < m) (le : e < m) (hn : nbW W a c e) (hK : X 64 [some (aR 108), some (aI (nI a)), some (aI (nI c)), some (aI (nI e)), none] [] N) : ∀ w i, i + w = e → c < i → X 49 [some (aR 108), some (aI (nI a)), some (aI (nI c)), some (aI (nI i)), none] [] N := by
  have m60 := g.1
  intro w
  induction w with
  | zero =>
    intro i hi hc
    have hi : i = e := by omega
    subst hi
    have ez := (hn.2 i).mpr (Or.inr rfl)
    have e2 := g.2.2.2.2.2.2.2.2.1 a i
    refine am_run hX 5 _ _ _ _ ?_
    conv => whnf
    refine am_c1 (ct_ekR (d := d + 1) h (by omega) (by omega)) ?_
    conv => whnf
    exact ⟨fun _ => hK, fun z => absurd (nI_ne0 (by omega) (by omega)) z⟩
  | succ w ih =>
    intro i hi hc
    have z0 : W.2.2 a i = 0 := Decidable.byContradiction fun z => by
      have := (hn.2 i).mp z
      omega
    have k := ct_ekR (d := d + 1) (i := a) (j := i) h (by omega) (by omega)
    rw [z0] at k
    refine am_run hX 5 _ _ _ _ ?_
    conv => whnf
    refine am_c1 k ?_
    conv => whnf
    refine ⟨fun z => absurd rfl z, fun _ => ?_⟩
    refine am_run hX 2 _ _ _ _ ?_
    conv => whnf
    rw [nI_1]
    exact ih (i + 1) (by omega) (by omega)
set_option maxRecDepth 100000 in
theorem ps_i {a c e : Nat} {Pp : am_Q} {X : am_X} (hX : am_K (d + 2) false nm_X12_pass Pp X) (h : rwR N inp W) (g : gdW m inp W) (tc : W.1 c = true) (te : W.1 e = true) (hce : c < e) (hN : ¬ 2 * inp ≤ e → Pp (.inl (some (aI 0))) N) (hK : 2 * inp ≤ e → X 82 [some (aR 108), some (aI (nI a)), some (aI (nI c)), some (aI (nI e)), none] [] N) : X 64 [some (aR 108), some (aI (nI a)), some (aI (nI c)), some (aI (nI e)), none] [] N := by
  have m60 := g.1
  have lc := g.2.2.2.2.1 c tc
  have le := g.2.2.2.2.1 e te
  have inn : ∀ x, W.1 x = true → ((∃ i, inW inp W i ∧ nI x = nI i) ↔ 2 * inp ≤ x) := fun x tx => by
    have lx := g.2.2.2.2.1 x tx
    constructor
    · rintro ⟨i, hi, e⟩
      have := g.2.2.2.2.1 i hi.1
      rw [(nI_eq (by omega) (by omega)).mp e]
      exact hi.2
    · intro hx
      exact ⟨x, ⟨tx, hx⟩, rfl⟩
  refine am_run hX 4 _ _ _ _ ?_
  conv => whnf
  refine am_c1 (ct_inR (d := d) h g) ?_
  by_cases hc : 2 * inp ≤ c
  · rw [iteC_t ((inn c tc).mpr hc)]
    conv => whnf
    exact ⟨fun _ => hK (by omega), fun z => absurd (by decide) z⟩
  · rw [iteC_f (fun z => hc ((inn c tc).mp z))]
    conv => whnf
    refine ⟨fun z => absurd rfl z, fun _ => ?_⟩
    refine am_run hX 4 _ _ _ _ ?_
    conv => whnf
    refine am_c1 (ct_inR (d := d) h g) ?_
    by_cases he : 2 * inp ≤ e
    · rw [iteC_t ((inn e te).mpr he)]
      conv => whnf
      exact ⟨fun _ => hK he, fun z => absurd (by decide) z⟩
    · rw [iteC_f (fun z => he ((inn e te).mp z))]
      conv => whnf
      refine ⟨fun z => absurd rfl z, fun _ => ?_⟩
      refine am_run hX 2 _ _ _ _ ?_
      conv => whnf
      exact ⟨rfl, hN he⟩
set_option maxRecDepth 100000 in
theorem ps_d {a c e : Nat} {Pp : am_Q} {X : am_X} (hX : am_K (d + 2) false nm_X12_pass Pp X) (h : rwR N inp W) (g : gdW m inp W) (ia : inW inp W a) (hn : nbW W a c e) (hP : ∀ N', rwF N N' → rwR N' inp (skW W a c e) → Pp (.inl (some (aI 1))) N') : X 82 [some (aR 108), some (aI (nI a)), some (aI (nI c)), some (aI (nI e)), none] [] N := by
  have m60 := g.1
  have la := g.2.2.2.2.1 a ia.1
  have ec := (hn.2 c).mpr (Or.inl rfl)
  have ee := (hn.2 e).mpr (Or.inr rfl)
  have lc := g.2.2.2.2.1 c (g.2.2.2.2.2.2.2.2.2.1 a c ec).2
  have le := g.2.2.2.2.1 e (g.2.2.2.2.2.2.2.2.2.1 a e ee).2
  have hce := hn.1
  have g2 := g.2.2.2.2.2.2.2.2.1
  have b1 := g2 a c
  have b2 := g2 a e
  have gr := gd_rm g ia.2
  have fin : ∀ v, (v = 1 ∨ v = 2) → v = (if W.2.2 a c = W.2.2 a e then 1 else 2) → X 102 [some (aR 108), some (aI (nI a)), some (aI (nI c)), some (aI (nI e)), none] [aI (nI v)] N := fun v hv et => by
    refine am_run hX 4 _ _ _ _ ?_
    conv => whnf
    refine am_cq (ct_rmR (d := d) h (by omega)) ?_
    rintro r N1 ⟨rfl, f1, h1⟩
    refine ⟨none, rfl, ?_⟩
    conv => whnf
    refine am_run hX 7 _ _ _ _ ?_
    conv => whnf
    refine am_cq (ct_jnR (d := d) (a := c) (b := e) (v := v) h1 (gr.2.2.2.2.2.2.2.2.1 c e) (by omega) (by omega) hv) ?_
    rintro r N2 ⟨rfl, f3, h3⟩
    refine ⟨none, rfl, ?_⟩
    conv => whnf
    refine ⟨rfl, hP N2 (rwF_t f1 f3) ?_⟩
    unfold skW
    rw [← et]
    exact h3
  refine am_run hX 9 _ _ _ _ ?_
  conv => whnf
  refine am_c1 (ct_ekR (d := d + 1) h (by omega) (by omega)) ?_
  conv => whnf
  refine am_c1 (ct_ekR (d := d + 1) h (by omega) (by omega)) ?_
  conv => whnf
  by_cases eq : W.2.2 a c = W.2.2 a e
  · refine ⟨fun z => absurd (by rw [eq]) z, fun _ => ?_⟩
    refine am_run hX 2 _ _ _ _ ?_
    conv => whnf
    exact fin 1 (by decide) (by rw [if_pos eq])
  · refine ⟨fun _ => ?_, fun z => absurd (fun y => eq ((nI_eq (by omega) (by omega)).mp y)) z⟩
    refine am_run hX 1 _ _ _ _ ?_
    conv => whnf
    exact fin 2 (by decide) (by rw [if_neg eq])
set_option maxRecDepth 100000 in
theorem ct_skR {p : Int32} (h : rwR N inp W) (g : gdW m inp W) : am_M (d + 3) false nm_X12_pass [aR 108, aI p] N (ruR N inp (∃ a, p = nI a ∧ skOK inp W a) (skV inp W p)) := by
  have m60 := g.1
  refine ⟨rfl, rfl, rfl, fun X hX => ps_a (d := d) hX h g (fun hno => ?_) (fun a ea ia p0 d2 => ?_)⟩
  · refine am_run hX 2 _ _ _ _ ?_
    conv => whnf
    exact ⟨rfl, Or.inl ⟨fun ⟨a, e, y⟩ => hno ⟨a, e, y.1, y.2.1, y.2.2.1⟩, rfl, rfl⟩⟩
  · subst ea
    have la := g.2.2.2.2.1 a ia.1
    obtain ⟨c, e, hn⟩ := dg_2 g d2
    have tc := (g.2.2.2.2.2.2.2.2.2.1 a c ((hn.2 c).mpr (Or.inl rfl))).2
    have te := (g.2.2.2.2.2.2.2.2.2.1 a e ((hn.2 e).mpr (Or.inr rfl))).2
    have lc := g.2.2.2.2.1 c tc
    have le := g.2.2.2.2.1 e te
    refine am_run hX 2 _ _ _ _ ?_
    conv => whnf
    refine ps_c (d := d) hX h g la lc hn ?_ c 0 (by omega)
    refine am_run hX 4 _ _ _ _ ?_
    conv => whnf
    rw [nI_1]
    have hce := hn.1
    refine ps_e (d := d) hX h g la le hn ?_ (e - (c + 1)) (c + 1) (by omega) (by omega)
    refine ps_i (d := d) hX h g tc te hce (fun hno => ?_) (fun h2 => ?_)
    · refine Or.inl ⟨fun ⟨a', e', y⟩ => hno ?_, rfl, rfl⟩
      have := g.2.2.2.2.1 a' y.1.1
      rw [← (nI_eq (by omega) (by omega)).mp e'] at y
      exact y.2.2.2 c e hn
    · have ok : skOK inp W a := ⟨ia, p0, d2, fun c' e' hn' => by rw [← (nb_u hn hn').2]; exact h2⟩
      exact ps_d (d := d) hX h g ia hn fun N' f1 h' => Or.inr ⟨⟨a, rfl, ok⟩, rfl, f1, _, ⟨a, c, e, rfl, ok, hn, rfl⟩, h'⟩
end PSR
