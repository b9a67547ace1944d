/-! THE CLASS'S GATES: which places a gate takes; h; apply -/
theorem tb2 (t j : Nat) : (2 ^ t).testBit j = decide (t = j) := Nat.testBit_two_pow
theorem an_0 (i t : Nat) : i &&& 2 ^ t = 0 ↔ i.testBit t = false := by
  constructor
  · intro e
    have h := congrArg (fun z => Nat.testBit z t) e
    simpa [Nat.testBit_and, tb2] using h
  · intro e
    apply Nat.eq_of_testBit_eq
    intro j
    rw [Nat.testBit_and, tb2, Nat.zero_testBit]
    by_cases h : t = j
    · subst h
      rw [e]
      rfl
    · simp [h]
theorem gb_0 {i t c : Nat} (h : c.testBit t = false) : i &&& (2 ^ t ||| c) = c ↔ (i &&& c = c ∧ i.testBit t = false) := by
  rw [Nat.and_or_distrib_left]
  constructor
  · intro e
    have et := congrArg (fun z => Nat.testBit z t) e
    simp [Nat.testBit_and, Nat.testBit_or, tb2, h] at et
    rw [(an_0 i t).mpr et, Nat.zero_or] at e
    exact ⟨e, et⟩
  · intro e
    rw [(an_0 i t).mpr e.2, Nat.zero_or]
    exact e.1
theorem an_1 {i t : Nat} (h : i.testBit t = true) : i &&& 2 ^ t = 2 ^ t := by
  apply Nat.eq_of_testBit_eq
  intro j
  rw [Nat.testBit_and, tb2]
  by_cases e : t = j
  · subst e
    rw [h]
    rfl
  · simp [e]
theorem gb_1 {i t c : Nat} (h : c.testBit t = false) : i &&& (2 ^ t ||| c) = 2 ^ t ||| c ↔ (i &&& c = c ∧ i.testBit t = true) := by
  rw [Nat.and_or_distrib_left]
  constructor
  · intro e
    have et := congrArg (fun z => Nat.testBit z t) e
    simp [Nat.testBit_and, Nat.testBit_or, tb2, h] at et
    refine ⟨?_, et⟩
    apply Nat.eq_of_testBit_eq
    intro j
    have ej := congrArg (fun z => Nat.testBit z j) e
    rw [an_1 et] at ej
    simp only [Nat.testBit_or, tb2] at ej
    by_cases e2 : t = j
    · subst e2
      rw [Nat.testBit_and, h, Bool.and_false]
    · simpa [e2] using ej
  · intro e
    rw [an_1 e.2, e.1]
theorem gb_w {i t s c : Nat} (hn : t ≠ s) (h : c.testBit t = false) (h2 : c.testBit s = false) : i &&& (2 ^ t ||| 2 ^ s ||| c) = 2 ^ t ||| c ↔ (i &&& c = c ∧ i.testBit t = true ∧ i.testBit s = false) := by
  have h3 : (2 ^ t ||| c).testBit s = false := by
    rw [Nat.testBit_or, tb2, h2]
    simp [hn]
  have e : 2 ^ t ||| 2 ^ s ||| c = 2 ^ s ||| (2 ^ t ||| c) := by
    rw [Nat.or_comm (2 ^ t) (2 ^ s), Nat.or_assoc]
  rw [e, gb_0 h3, gb_1 h]
  constructor
  · rintro ⟨⟨a, b⟩, c⟩
    exact ⟨a, b, c⟩
  · rintro ⟨a, b, c⟩
    exact ⟨⟨a, b⟩, c⟩
theorem xo_c {i t c : Nat} (h : c.testBit t = false) : (i ^^^ 2 ^ t) &&& c = i &&& c := by
  apply Nat.eq_of_testBit_eq
  intro j
  rw [Nat.testBit_and, Nat.testBit_and, Nat.testBit_xor, tb2]
  by_cases e : t = j
  · subst e
    rw [h, Bool.and_false, Bool.and_false]
  · simp [e]
theorem xo_t (i t : Nat) : (i ^^^ 2 ^ t).testBit t = !i.testBit t := by
  rw [Nat.testBit_xor, tb2]
  simp
theorem xo_s {i t s : Nat} (h : t ≠ s) : (i ^^^ 2 ^ t).testBit s = i.testBit s := by
  rw [Nat.testBit_xor, tb2]
  simp [h]
theorem or_x {i t : Nat} (h : i.testBit t = false) : i ||| 2 ^ t = i ^^^ 2 ^ t := by
  apply Nat.eq_of_testBit_eq
  intro j
  rw [Nat.testBit_or, Nat.testBit_xor, tb2]
  by_cases e : t = j
  · subst e
    simp [h]
  · simp [e]
theorem p_or {t s : Nat} (h : t ≠ s) : 2 ^ t ||| 2 ^ s = 2 ^ t ^^^ 2 ^ s := or_x (by rw [tb2]; simp [h])
/-- places: CONTROLS held and the WIRE down, up; of w: up and the other down -/
abbrev gS0 (t c : Nat) (i : Nat) : Prop := i &&& c = c ∧ i.testBit t = false
abbrev gS1 (t c : Nat) (i : Nat) : Prop := i &&& c = c ∧ i.testBit t = true
abbrev gSw (t s c : Nat) (i : Nat) : Prop := i &&& c = c ∧ i.testBit t = true ∧ i.testBit s = false
theorem g0_x {t c i : Nat} (h : c.testBit t = false) : gS0 t c (i ^^^ 2 ^ t) ↔ gS1 t c i := by
  unfold gS0 gS1
  rw [xo_c h, xo_t]
  simp
theorem g0_n {t c i : Nat} (h : c.testBit t = false) (hi : gS0 t c i) : ¬ gS0 t c (i ^^^ 2 ^ t) := by
  rw [g0_x h]
  intro q
  have q2 := q.2
  rw [hi.2] at q2
  exact absurd q2 (by decide)
theorem gw_n {t s c i : Nat} (hn : t ≠ s) (hi : gSw t s c i) : ¬ gSw t s c (i ^^^ (2 ^ t ^^^ 2 ^ s)) := by
  rintro ⟨_, q, _⟩
  rw [← Nat.xor_assoc, xo_s (fun e => hn e.symm), xo_t, hi.2.1] at q
  exact absurd q (by decide)
/-- two places at a time -/
def pm {α : Type} (S : Nat → Prop) [∀ i, Decidable (S i)] (c : Nat) (f h : α → α → α) (ys : Nat → α) (m : Nat) : Nat → α := fun k => if S k ∧ k < m then f (ys k) (ys (k ^^^ c)) else if S (k ^^^ c) ∧ k ^^^ c < m then h (ys (k ^^^ c)) (ys k) else ys k
def sta {α : Type} (ys : Nat → α) (i : Nat) (v : α) : Nat → α := fun k => if k = i then v else ys k
section PMS
variable {α : Type} {c : Nat} {f h : α → α → α} {ys : Nat → α} {m : Nat}
theorem pm_s {S : Nat → Prop} [∀ i, Decidable (S i)] (hs : S m) (hn : ¬ S (m ^^^ c)) : sta (sta (pm S c f h ys m) m (f (ys m) (ys (m ^^^ c)))) (m ^^^ c) (h (ys m) (ys (m ^^^ c))) = pm S c f h ys (m + 1) := by
  have hne : ¬ m = m ^^^ c := fun e => hn (by rw [← e]; exact hs)
  funext k
  unfold sta
  by_cases e : k = m ^^^ c
  · subst e
    rw [if_pos rfl]
    unfold pm
    rw [if_neg (fun q => hn q.1), xx_c, if_pos ⟨hs, by omega⟩]
  · rw [if_neg e]
    by_cases e2 : k = m
    · subst e2
      rw [if_pos rfl]
      unfold pm
      rw [if_pos ⟨hs, by omega⟩]
    · rw [if_neg e2]
      have e3 : ¬ k ^^^ c = m := fun q => e (by rw [← q, xx_c])
      unfold pm
      by_cases h1 : S k ∧ k < m
      · rw [if_pos h1, if_pos ⟨h1.1, by omega⟩]
      · rw [if_neg h1, if_neg (c := S k ∧ k < m + 1) (fun q => h1 ⟨q.1, by omega⟩)]
        by_cases h2 : S (k ^^^ c) ∧ k ^^^ c < m
        · rw [if_pos h2, if_pos ⟨h2.1, by omega⟩]
        · rw [if_neg h2, if_neg (c := S (k ^^^ c) ∧ k ^^^ c < m + 1) (fun q => h2 ⟨q.1, by omega⟩)]
theorem pm_n {S : Nat → Prop} [∀ i, Decidable (S i)] (hs : ¬ S m) : pm S c f h ys m = pm S c f h ys (m + 1) := by
  have hk : ∀ k, (S k ∧ k < m) ↔ (S k ∧ k < m + 1) := fun k => by
    constructor
    · intro q
      exact ⟨q.1, by omega⟩
    · intro q
      refine ⟨q.1, ?_⟩
      apply Decidable.byContradiction
      intro hc
      have : k = m := by omega
      subst this
      exact hs q.1
  funext k
  unfold pm
  simp only [hk]
theorem pm_at {S : Nat → Prop} [∀ i, Decidable (S i)] (hn : ¬ S (m ^^^ c)) : pm S c f h ys m m = ys m := by
  unfold pm
  rw [if_neg (by omega), if_neg (fun q => hn q.1)]
theorem pm_at2 {S : Nat → Prop} [∀ i, Decidable (S i)] (hn : ¬ S (m ^^^ c)) : pm S c f h ys m (m ^^^ c) = ys (m ^^^ c) := by
  unfold pm
  rw [if_neg (fun q => hn q.1), xx_c, if_neg (by omega)]
theorem pm_0 {S : Nat → Prop} [∀ i, Decidable (S i)] : pm S c f h ys 0 = ys := by
  funext k
  unfold pm
  rw [if_neg (by omega), if_neg (by omega)]
end PMS
theorem exm_pm {S : Nat → Prop} [∀ i, Decidable (S i)] {c : Nat} {xs : Nat → R4} {m : Nat} : exm S c xs m = pm S c (fun _ b => b) (fun a _ => a) xs m := by
  funext k
  unfold exm pm
  by_cases h1 : S k ∧ k < m
  · rw [if_pos (Or.inl h1), if_pos h1]
  · rw [if_neg h1]
    by_cases h2 : S (k ^^^ c) ∧ k ^^^ c < m
    · rw [if_pos (Or.inr h2), if_pos h2]
    · rw [if_neg (fun q => q.elim h1 h2), if_neg h2]
/-- h -/
def bh (A S : Nat → Prop) [∀ i, Decidable (A i)] [∀ i, Decidable (S i)] (c : Nat) (xs : Nat → R4) (m : Nat) : Nat → R4 := fun k => if A k then pm S c (fun a b => ra a b) (fun a b => ra a (ng b)) xs m k else if k < m then rr (xs k) else xs k
section BHS
variable {c : Nat} {xs : Nat → R4} {m : Nat}
theorem bh_r {A S : Nat → Prop} [∀ i, Decidable (A i)] [∀ i, Decidable (S i)] (hA : ¬ A m) (hs : ¬ S m) : stx (bh A S c xs m) m (rr (xs m)) = bh A S c xs (m + 1) := by
  funext k
  unfold stx bh
  by_cases e : k = m
  · subst e
    rw [if_pos rfl, if_neg hA, if_pos (by omega)]
  · rw [if_neg e]
    by_cases h : A k
    · rw [if_pos h, if_pos h, pm_n hs]
    · rw [if_neg h, if_neg h]
      by_cases h2 : k < m
      · rw [if_pos h2, if_pos (by omega)]
      · rw [if_neg h2, if_neg (by omega)]
theorem bh_n {A S : Nat → Prop} [∀ i, Decidable (A i)] [∀ i, Decidable (S i)] (hA : A m) (hs : ¬ S m) : bh A S c xs m = bh A S c xs (m + 1) := by
  funext k
  unfold bh
  by_cases h : A k
  · rw [if_pos h, if_pos h, pm_n hs]
  · rw [if_neg h, if_neg h]
    have e : ¬ k = m := fun q => h (by rw [q]; exact hA)
    by_cases h2 : k < m
    · rw [if_pos h2, if_pos (by omega)]
    · rw [if_neg h2, if_neg (by omega)]
theorem bh_s {A S : Nat → Prop} [∀ i, Decidable (A i)] [∀ i, Decidable (S i)] (hA : A m) (hA2 : A (m ^^^ c)) (hs : S m) (hn : ¬ S (m ^^^ c)) : stx (stx (bh A S c xs m) m (ra (xs m) (xs (m ^^^ c)))) (m ^^^ c) (ra (xs m) (ng (xs (m ^^^ c)))) = bh A S c xs (m + 1) := by
  have key := pm_s (c := c) (f := fun a b => ra a b) (h := fun a b => ra a (ng b)) (ys := xs) hs hn
  funext k
  have key := congrFun key k
  unfold stx bh
  unfold sta at key
  by_cases e : k = m ^^^ c
  · rw [if_pos e] at key ⊢
    rw [if_pos (by rw [e]; exact hA2)]
    exact key
  · rw [if_neg e] at key ⊢
    by_cases e2 : k = m
    · rw [if_pos e2] at key ⊢
      rw [if_pos (by rw [e2]; exact hA)]
      exact key
    · rw [if_neg e2] at key ⊢
      by_cases h : A k
      · rw [if_pos h, if_pos h]
        exact key
      · rw [if_neg h, if_neg h]
        by_cases h2 : k < m
        · rw [if_pos h2, if_pos (by omega)]
        · rw [if_neg h2, if_neg (by omega)]
theorem bh_at {A S : Nat → Prop} [∀ i, Decidable (A i)] [∀ i, Decidable (S i)] (hn : ¬ S (m ^^^ c)) : bh A S c xs m m = xs m := by
  unfold bh
  by_cases h : A m
  · rw [if_pos h, pm_at hn]
  · rw [if_neg h, if_neg (by omega)]
theorem bh_at2 {A S : Nat → Prop} [∀ i, Decidable (A i)] [∀ i, Decidable (S i)] (hA : A (m ^^^ c)) (hn : ¬ S (m ^^^ c)) : bh A S c xs m (m ^^^ c) = xs (m ^^^ c) := by
  unfold bh
  rw [if_pos hA, pm_at2 hn]
theorem bh_0 {A S : Nat → Prop} [∀ i, Decidable (A i)] [∀ i, Decidable (S i)] : bh A S c xs 0 = xs := by
  funext k
  unfold bh
  by_cases h : A k
  · rw [if_pos h, pm_0]
  · rw [if_neg h, if_neg (by omega)]
end BHS
def bl1 (xs : Nat → R4) (i j p : Nat) : Nat → R4 := stpp (stpp xs i p (pp (xs i) p + pp (xs j) p)) j p (pp (xs i) p - pp (xs j) p)
theorem bl_4 (xs : Nat → R4) {i j : Nat} (h : i ≠ j) : bl1 (bl1 (bl1 (bl1 xs i j 0) i j 1) i j 2) i j 3 = stx (stx xs i (ra (xs i) (xs j))) j (ra (xs i) (ng (xs j))) := by
  have hji : ¬ j = i := fun e => h e.symm
  funext k
  unfold bl1 stx
  by_cases h1 : k = i
  · subst h1
    simp only [stpp, if_pos, if_neg h, if_neg hji]
    rfl
  · by_cases h2 : k = j
    · subst h2
      simp only [stpp, if_pos, if_neg h, if_neg hji]
      rfl
    · simp only [stpp, if_neg h1, if_neg h2]
/-- what a gate does to a row: its kind, WIRE, other WIRE, CONTROLS, mirrored or not -/
def eig (k : Nat) (mi : Bool) : Nat := if mi then (8 - ([0, 0, 4, 0, 2, 1, 6, 7, 0] : List Nat).getD k 0) % 8 else ([0, 0, 4, 0, 2, 1, 6, 7, 0] : List Nat).getD k 0
def gx (k t s c : Nat) (mi : Bool) (N : Nat) (xs : Nat → R4) : Nat → R4 :=
  if k = 0 then pm (gS0 t c) (2 ^ t) (fun _ b => b) (fun a _ => a) xs N
  else if k = 1 then pm (gS0 t c) (2 ^ t) (fun _ b => t8n (if mi then 2 else 6) b) (fun a _ => t8n (if mi then 6 else 2) a) xs N
  else if k = 3 then bh (fun i => i &&& c = c) (gS0 t c) (2 ^ t) xs N
  else if k = 8 then pm (gSw t s c) (2 ^ t ^^^ 2 ^ s) (fun _ b => b) (fun a _ => a) xs N
  else rotm (gS1 t c) (t8n (eig k mi)) xs N
section GAT
variable {d : Nat} {M : mm_M} {g : Nat → Int64}
set_option maxRecDepth 100000 in
theorem ct_times20 {N k : Nat} {xs : Nat → R4} (hN : N ≤ 256) (hk : k < N) : am_M (d + 1) false nm_X6_timesRoot [aR 18, aI (nI (4 * k))] (mm_l M 20 (cq g N xs)) (am_q0 (mm_l M 20 (cq g N (stx xs k (rr (xs k)))))) := by
  have e1 : nI (4 * k) + 1 = nI (4 * k + 1) := nI_1 _
  have e2 : nI (4 * k) + 2 = nI (4 * k + 2) := by rw [show (2 : Int32) = nI 2 from rfl, nI_add]
  have e3 : nI (4 * k) + 3 = nI (4 * k + 3) := by rw [show (3 : Int32) = nI 3 from rfl, nI_add]
  have ez : cq g N xs = cq g N (stx xs k (xs k)) := by rw [stx_z]
  refine ⟨rfl, rfl, rfl, fun X hX => am_run hX 80 _ _ _ _ ?_⟩
  conv => whnf
  refine ⟨vp_in_nI (by show _ < 1024; omega) (by decide), ?_⟩
  conv => whnf
  rw [e1]
  refine ⟨vp_in_nI (by show _ < 1024; omega) (by decide), ?_⟩
  conv => whnf
  rw [e2]
  refine ⟨vp_in_nI (by show _ < 1024; omega) (by decide), ?_⟩
  conv => whnf
  rw [e3]
  refine ⟨vp_in_nI (by show _ < 1024; omega) (by decide), ?_⟩
  conv => whnf
  refine ⟨vp_in_nI (by show _ < 1024; omega) (by decide), ?_⟩
  conv => whnf
  rw [e1]
  refine ⟨vp_in_nI (by show _ < 1024; omega) (by decide), ?_⟩
  conv => whnf
  rw [e2]
  refine ⟨vp_in_nI (by show _ < 1024; omega) (by decide), ?_⟩
  conv => whnf
  rw [e3]
  refine ⟨vp_in_nI (by show _ < 1024; omega) (by decide), ?_⟩
  conv => whnf
  refine ⟨trivial, rfl, ?_⟩
  rw [nI_clamp (n := 4 * k) (by omega), nI_clamp (n := 4 * k + 1) (by omega), nI_clamp (n := 4 * k + 2) (by omega), nI_clamp (n := 4 * k + 3) (by omega), ez]
  simp only [mm_l2, mm_ll, cq_at hk (show 3 < 4 by decide), cq_at hk (show 2 < 4 by decide), cq_at hk (show 1 < 4 by decide), cq_at0 hk, cq_u _ hk (show 3 < 4 by decide), cq_u _ hk (show 2 < 4 by decide), cq_u _ hk (show 1 < 4 by decide), cq_u0 _ hk, lI_add, lI_sub, stp_x, stx_at]
  rfl
set_option maxRecDepth 100000 in
theorem bl_b20 {P : am_Q} {X : am_X} {N i p t c : Nat} {xs : Nat → R4} (hX : am_K (d + 1) false nm_X6_blend P X) (hN : N ≤ 256) (hi : i < N) (hj : i ^^^ 2 ^ t < N) (hb : i.testBit t = false) (hp : p < 4) (hK : ∀ l5 l6 l7 l8, X 46 [some (aR 18), some (aI (nI (2 ^ t))), some (aI (nI c)), some (aI (nI i)), some (aI (nI (p + 1))), l5, l6, l7, l8] [] (mm_l M 20 (cq g N (bl1 xs i (i ^^^ 2 ^ t) p)))) (l5 l6 l7 l8 : Option am_V) : X 46 [some (aR 18), some (aI (nI (2 ^ t))), some (aI (nI c)), some (aI (nI i)), some (aI (nI p)), l5, l6, l7, l8] [] (mm_l M 20 (cq g N xs)) := by
  have eA : (4 : Int32) * nI i + nI p = nI (4 * i + p) := by rw [show (4 : Int32) = nI 4 from rfl, nI_mul, nI_add]
  have eB : (4 : Int32) * (nI i ||| nI (2 ^ t)) + nI p = nI (4 * (i ^^^ 2 ^ t) + p) := by rw [nI_or, or_x hb, show (4 : Int32) = nI 4 from rfl, nI_mul, nI_add]
  refine am_run hX 3 _ _ _ _ ?_
  conv => whnf
  refine ⟨fun c => absurd c (nI_ge (a := p) (b := 4) hp (by decide)), fun _ => ?_⟩
  refine am_run hX 46 _ _ _ _ ?_
  conv => whnf
  rw [eA]
  refine ⟨vp_in_nI (by show _ < 1024; omega) (by decide), ?_⟩
  conv => whnf
  rw [eB]
  refine ⟨vp_in_nI (by show _ < 1024; omega) (by decide), ?_⟩
  conv => whnf
  rw [eA]
  refine ⟨vp_in_nI (by show _ < 1024; omega) (by decide), ?_⟩
  conv => whnf
  rw [eB]
  refine ⟨vp_in_nI (by show _ < 1024; omega) (by decide), ?_⟩
  conv => whnf
  rw [nI_clamp (n := 4 * i + p) (by omega), nI_clamp (n := 4 * (i ^^^ 2 ^ t) + p) (by omega), nI_1]
  simp only [mm_l2, mm_ll, cq_at hi hp, cq_at hj hp, lI_add, lI_sub, cq_u _ hi hp, cq_u _ hj hp]
  exact hK _ _ _ _
set_option maxRecDepth 100000 in
theorem bl_l20 {P : am_Q} {X : am_X} {W t c : Nat} {xs : Nat → R4} (hX : am_K (d + 1) false nm_X6_blend P X) (hN : 2 ^ W ≤ 256) (ht : t < W) (hcw : c < 2 ^ W) (hct : c.testBit t = false) (hs : M.1 18 2 = nI (2 ^ W)) (hP : P (.inl none) (mm_l M 20 (cq g (2 ^ W) (bh (fun i => i &&& c = c) (gS0 t c) (2 ^ t) xs (2 ^ W))))) : ∀ (m i : Nat), i + m = 2 ^ W → ∀ l4 l5 l6 l7 l8, X 12 [some (aR 18), some (aI (nI (2 ^ t))), some (aI (nI c)), some (aI (nI i)), l4, l5, l6, l7, l8] [] (mm_l M 20 (cq g (2 ^ W) (bh (fun i => i &&& c = c) (gS0 t c) (2 ^ t) xs i))) := by
  have htl : 2 ^ t < 2 ^ W := Nat.pow_lt_pow_right (by decide) ht
  intro m
  induction m with
  | zero =>
    intro i hi l4 l5 l6 l7 l8
    have hi : i = 2 ^ W := by omega
    subst hi
    refine am_run hX 10 _ _ _ _ ?_
    conv => whnf
    rw [show (mm_l M 20 (cq g (2 ^ W) (bh (fun i => i &&& c = c) (gS0 t c) (2 ^ t) xs (2 ^ W)))).1 18 2 = nI (2 ^ W) from hs]
    refine ⟨fun _ => ?_, fun c => absurd (nI_le (by omega) (by omega)) c⟩
    conv => whnf
    exact ⟨trivial, hP⟩
  | succ m ih =>
    intro i hi l4 l5 l6 l7 l8
    have ih := ih (i + 1) (by omega)
    have hi2 : i < 2 ^ W := by omega
    have hj := xq_lt hi2 htl
    have hlt : i &&& c < 2 ^ W := Nat.and_lt_two_pow _ hcw
    have hlt2 : i &&& 2 ^ t < 2 ^ W := Nat.and_lt_two_pow _ htl
    refine am_run hX 4 _ _ _ _ ?_
    conv => whnf
    rw [show (mm_l M 20 (cq g (2 ^ W) (bh (fun i => i &&& c = c) (gS0 t c) (2 ^ t) xs i))).1 18 2 = nI (2 ^ W) from hs]
    refine ⟨fun c => absurd c (nI_ge (by omega) (by omega)), fun _ => ?_⟩
    refine am_run hX 5 _ _ _ _ ?_
    conv => whnf
    rw [nI_and, nI_eq (by omega) (by omega)]
    refine ⟨fun hA => ?_, fun hA => ?_⟩
    · refine am_run hX 4 _ _ _ _ ?_
      conv => whnf
      rw [nI_and, show (0 : Int32) = nI 0 from rfl, nI_eq (by omega) (by omega), an_0]
      refine ⟨fun hb => ?_, fun hb => ?_⟩
      · refine am_run hX 2 _ _ _ _ ?_
        conv => whnf
        rw [nI_1]
        rw [← bh_n (A := fun i => i &&& c = c) hA (fun q => hb q.2)] at ih
        exact ih _ _ _ _ _
      · have hb : i.testBit t = false := by
          cases q : i.testBit t with
          | false => rfl
          | true => exact absurd q (by simpa using hb)
        have hS : gS0 t c i := ⟨hA, hb⟩
        have hnS := g0_n hct hS
        have hA2 : (i ^^^ 2 ^ t) &&& c = c := by rw [xo_c hct]; exact hA
        refine am_run hX 2 _ _ _ _ ?_
        conv => whnf
        refine bl_b20 (p := 0) hX hN hi2 hj hb (by decide) (bl_b20 (p := 1) hX hN hi2 hj hb (by decide) (bl_b20 (p := 2) hX hN hi2 hj hb (by decide) (bl_b20 (p := 3) hX hN hi2 hj hb (by decide) ?_))) _ _ _ _
        intro l5 l6 l7 l8
        have hne : i ≠ i ^^^ 2 ^ t := fun e => hnS (by rw [← e]; exact hS)
        rw [bl_4 _ hne, bh_at (A := fun i => i &&& c = c) hnS, bh_at2 (A := fun i => i &&& c = c) hA2 hnS, bh_s (A := fun i => i &&& c = c) hA hA2 hS hnS]
        refine am_run hX 3 _ _ _ _ ?_
        conv => whnf
        refine ⟨fun _ => ?_, fun c => absurd (by decide) c⟩
        refine am_run hX 2 _ _ _ _ ?_
        conv => whnf
        rw [nI_1]
        exact ih _ _ _ _ _
    · refine am_run hX 8 _ _ _ _ ?_
      conv => whnf
      rw [show (4 : Int32) = nI 4 from rfl, nI_mul]
      refine am_c0 (ct_times20 (d := d) hN hi2) ?_
      have hnS : ¬ gS0 t c (i ^^^ 2 ^ t) := fun q => hA (by have := q.1; rw [xo_c hct] at this; exact this)
      rw [bh_at (A := fun i => i &&& c = c) hnS, bh_r (A := fun i => i &&& c = c) hA (fun q => hA q.1)]
      conv => whnf
      rw [nI_1]
      exact ih _ _ _ _ _
set_option maxRecDepth 100000 in
theorem ct_blend20 {W t c : Nat} {xs : Nat → R4} (hN : 2 ^ W ≤ 256) (ht : t < W) (hcw : c < 2 ^ W) (hct : c.testBit t = false) (hs : M.1 18 2 = nI (2 ^ W)) : am_M (d + 2) false nm_X6_blend [aR 18, aI (nI (2 ^ t)), aI (nI c)] (mm_l M 20 (cq g (2 ^ W) xs)) (am_q0 (mm_l (mm_i M 18 (upd (M.1 18) 3 (M.1 18 3 + 1))) 20 (cq g (2 ^ W) (bh (fun i => i &&& c = c) (gS0 t c) (2 ^ t) xs (2 ^ W))))) := by
  refine ⟨rfl, rfl, rfl, fun X hX => am_run hX 8 _ _ _ _ ?_⟩
  conv => whnf
  have key := bl_l20 (d := d) (M := mm_i M 18 (upd (M.1 18) 3 (M.1 18 3 + 1))) (g := g) (xs := xs) hX hN ht hcw hct (by rw [mm_i1]; exact hs) ⟨rfl, rfl⟩ (2 ^ W) 0 (by omega)
  rw [bh_0] at key
  exact key _ _ _ _ _
set_option maxRecDepth 100000 in
theorem ct_times107 {N k : Nat} {xs : Nat → R4} (hN : N ≤ 64) (hk : k < N) : am_M (d + 1) false nm_X6_timesRoot [aR 105, aI (nI (4 * k))] (mm_l M 107 (cq g N xs)) (am_q0 (mm_l M 107 (cq g N (stx xs k (rr (xs k)))))) := by
  have e1 : nI (4 * k) + 1 = nI (4 * k + 1) := nI_1 _
  have e2 : nI (4 * k) + 2 = nI (4 * k + 2) := by rw [show (2 : Int32) = nI 2 from rfl, nI_add]
  have e3 : nI (4 * k) + 3 = nI (4 * k + 3) := by rw [show (3 : Int32) = nI 3 from rfl, nI_add]
  have ez : cq g N xs = cq g N (stx xs k (xs k)) := by rw [stx_z]
  refine ⟨rfl, rfl, rfl, fun X hX => am_run hX 80 _ _ _ _ ?_⟩
  conv => whnf
  refine ⟨vp_in_nI (by show _ < 256; omega) (by decide), ?_⟩
  conv => whnf
  rw [e1]
  refine ⟨vp_in_nI (by show _ < 256; omega) (by decide), ?_⟩
  conv => whnf
  rw [e2]
  refine ⟨vp_in_nI (by show _ < 256; omega) (by decide), ?_⟩
  conv => whnf
  rw [e3]
  refine ⟨vp_in_nI (by show _ < 256; omega) (by decide), ?_⟩
  conv => whnf
  refine ⟨vp_in_nI (by show _ < 256; omega) (by decide), ?_⟩
  conv => whnf
  rw [e1]
  refine ⟨vp_in_nI (by show _ < 256; omega) (by decide), ?_⟩
  conv => whnf
  rw [e2]
  refine ⟨vp_in_nI (by show _ < 256; omega) (by decide), ?_⟩
  conv => whnf
  rw [e3]
  refine ⟨vp_in_nI (by show _ < 256; omega) (by decide), ?_⟩
  conv => whnf
  refine ⟨trivial, rfl, ?_⟩
  rw [nI_clamp (n := 4 * k) (by omega), nI_clamp (n := 4 * k + 1) (by omega), nI_clamp (n := 4 * k + 2) (by omega), nI_clamp (n := 4 * k + 3) (by omega), ez]
  simp only [mm_l2, mm_ll, cq_at hk (show 3 < 4 by decide), cq_at hk (show 2 < 4 by decide), cq_at hk (show 1 < 4 by decide), cq_at0 hk, cq_u _ hk (show 3 < 4 by decide), cq_u _ hk (show 2 < 4 by decide), cq_u _ hk (show 1 < 4 by decide), cq_u0 _ hk, lI_add, lI_sub, stp_x, stx_at]
  rfl
set_option maxRecDepth 100000 in
theorem bl_b107 {P : am_Q} {X : am_X} {N i p t c : Nat} {xs : Nat → R4} (hX : am_K (d + 1) false nm_X6_blend P X) (hN : N ≤ 64) (hi : i < N) (hj : i ^^^ 2 ^ t < N) (hb : i.testBit t = false) (hp : p < 4) (hK : ∀ l5 l6 l7 l8, X 46 [some (aR 105), some (aI (nI (2 ^ t))), some (aI (nI c)), some (aI (nI i)), some (aI (nI (p + 1))), l5, l6, l7, l8] [] (mm_l M 107 (cq g N (bl1 xs i (i ^^^ 2 ^ t) p)))) (l5 l6 l7 l8 : Option am_V) : X 46 [some (aR 105), some (aI (nI (2 ^ t))), some (aI (nI c)), some (aI (nI i)), some (aI (nI p)), l5, l6, l7, l8] [] (mm_l M 107 (cq g N xs)) := by
  have eA : (4 : Int32) * nI i + nI p = nI (4 * i + p) := by rw [show (4 : Int32) = nI 4 from rfl, nI_mul, nI_add]
  have eB : (4 : Int32) * (nI i ||| nI (2 ^ t)) + nI p = nI (4 * (i ^^^ 2 ^ t) + p) := by rw [nI_or, or_x hb, show (4 : Int32) = nI 4 from rfl, nI_mul, nI_add]
  refine am_run hX 3 _ _ _ _ ?_
  conv => whnf
  refine ⟨fun c => absurd c (nI_ge (a := p) (b := 4) hp (by decide)), fun _ => ?_⟩
  refine am_run hX 46 _ _ _ _ ?_
  conv => whnf
  rw [eA]
  refine ⟨vp_in_nI (by show _ < 256; omega) (by decide), ?_⟩
  conv => whnf
  rw [eB]
  refine ⟨vp_in_nI (by show _ < 256; omega) (by decide), ?_⟩
  conv => whnf
  rw [eA]
  refine ⟨vp_in_nI (by show _ < 256; omega) (by decide), ?_⟩
  conv => whnf
  rw [eB]
  refine ⟨vp_in_nI (by show _ < 256; omega) (by decide), ?_⟩
  conv => whnf
  rw [nI_clamp (n := 4 * i + p) (by omega), nI_clamp (n := 4 * (i ^^^ 2 ^ t) + p) (by omega), nI_1]
  simp only [mm_l2, mm_ll, cq_at hi hp, cq_at hj hp, lI_add, lI_sub, cq_u _ hi hp, cq_u _ hj hp]
  exact hK _ _ _ _
set_option maxRecDepth 100000 in
theorem bl_l107 {P : am_Q} {X : am_X} {W t c : Nat} {xs : Nat → R4} (hX : am_K (d + 1) false nm_X6_blend P X) (hN : 2 ^ W ≤ 64) (ht : t < W) (hcw : c < 2 ^ W) (hct : c.testBit t = false) (hs : M.1 105 2 = nI (2 ^ W)) (hP : P (.inl none) (mm_l M 107 (cq g (2 ^ W) (bh (fun i => i &&& c = c) (gS0 t c) (2 ^ t) xs (2 ^ W))))) : ∀ (m i : Nat), i + m = 2 ^ W → ∀ l4 l5 l6 l7 l8, X 12 [some (aR 105), some (aI (nI (2 ^ t))), some (aI (nI c)), some (aI (nI i)), l4, l5, l6, l7, l8] [] (mm_l M 107 (cq g (2 ^ W) (bh (fun i => i &&& c = c) (gS0 t c) (2 ^ t) xs i))) := by
  have htl : 2 ^ t < 2 ^ W := Nat.pow_lt_pow_right (by decide) ht
  intro m
  induction m with
  | zero =>
    intro i hi l4 l5 l6 l7 l8
    have hi : i = 2 ^ W := by omega
    subst hi
    refine am_run hX 10 _ _ _ _ ?_
    conv => whnf
    rw [show (mm_l M 107 (cq g (2 ^ W) (bh (fun i => i &&& c = c) (gS0 t c) (2 ^ t) xs (2 ^ W)))).1 105 2 = nI (2 ^ W) from hs]
    refine ⟨fun _ => ?_, fun c => absurd (nI_le (by omega) (by omega)) c⟩
    conv => whnf
    exact ⟨trivial, hP⟩
  | succ m ih =>
    intro i hi l4 l5 l6 l7 l8
    have ih := ih (i + 1) (by omega)
    have hi2 : i < 2 ^ W := by omega
    have hj := xq_lt hi2 htl
    have hlt : i &&& c < 2 ^ W := Nat.and_lt_two_pow _ hcw
    have hlt2 : i &&& 2 ^ t < 2 ^ W := Nat.and_lt_two_pow _ htl
    refine am_run hX 4 _ _ _ _ ?_
    conv => whnf
    rw [show (mm_l M 107 (cq g (2 ^ W) (bh (fun i => i &&& c = c) (gS0 t c) (2 ^ t) xs i))).1 105 2 = nI (2 ^ W) from hs]
    refine ⟨fun c => absurd c (nI_ge (by omega) (by omega)), fun _ => ?_⟩
    refine am_run hX 5 _ _ _ _ ?_
    conv => whnf
    rw [nI_and, nI_eq (by omega) (by omega)]
    refine ⟨fun hA => ?_, fun hA => ?_⟩
    · refine am_run hX 4 _ _ _ _ ?_
      conv => whnf
      rw [nI_and, show (0 : Int32) = nI 0 from rfl, nI_eq (by omega) (by omega), an_0]
      refine ⟨fun hb => ?_, fun hb => ?_⟩
      · refine am_run hX 2 _ _ _ _ ?_
        conv => whnf
        rw [nI_1]
        rw [← bh_n (A := fun i => i &&& c = c) hA (fun q => hb q.2)] at ih
        exact ih _ _ _ _ _
      · have hb : i.testBit t = false := by
          cases q : i.testBit t with
          | false => rfl
          | true => exact absurd q (by simpa using hb)
        have hS : gS0 t c i := ⟨hA, hb⟩
        have hnS := g0_n hct hS
        have hA2 : (i ^^^ 2 ^ t) &&& c = c := by rw [xo_c hct]; exact hA
        refine am_run hX 2 _ _ _ _ ?_
        conv => whnf
        refine bl_b107 (p := 0) hX hN hi2 hj hb (by decide) (bl_b107 (p := 1) hX hN hi2 hj hb (by decide) (bl_b107 (p := 2) hX hN hi2 hj hb (by decide) (bl_b107 (p := 3) hX hN hi2 hj hb (by decide) ?_))) _ _ _ _
        intro l5 l6 l7 l8
        have hne : i ≠ i ^^^ 2 ^ t := fun e => hnS (by rw [← e]; exact hS)
        rw [bl_4 _ hne, bh_at (A := fun i => i &&& c = c) hnS, bh_at2 (A := fun i => i &&& c = c) hA2 hnS, bh_s (A := fun i => i &&& c = c) hA hA2 hS hnS]
        refine am_run hX 3 _ _ _ _ ?_
        conv => whnf
        refine ⟨fun _ => ?_, fun c => absurd (by decide) c⟩
        refine am_run hX 2 _ _ _ _ ?_
        conv => whnf
        rw [nI_1]
        exact ih _ _ _ _ _
    · refine am_run hX 8 _ _ _ _ ?_
      conv => whnf
      rw [show (4 : Int32) = nI 4 from rfl, nI_mul]
      refine am_c0 (ct_times107 (d := d) hN hi2) ?_
      have hnS : ¬ gS0 t c (i ^^^ 2 ^ t) := fun q => hA (by have := q.1; rw [xo_c hct] at this; exact this)
      rw [bh_at (A := fun i => i &&& c = c) hnS, bh_r (A := fun i => i &&& c = c) hA (fun q => hA q.1)]
      conv => whnf
      rw [nI_1]
      exact ih _ _ _ _ _
set_option maxRecDepth 100000 in
theorem ct_blend107 {W t c : Nat} {xs : Nat → R4} (hN : 2 ^ W ≤ 64) (ht : t < W) (hcw : c < 2 ^ W) (hct : c.testBit t = false) (hs : M.1 105 2 = nI (2 ^ W)) : am_M (d + 2) false nm_X6_blend [aR 105, aI (nI (2 ^ t)), aI (nI c)] (mm_l M 107 (cq g (2 ^ W) xs)) (am_q0 (mm_l (mm_i M 105 (upd (M.1 105) 3 (M.1 105 3 + 1))) 107 (cq g (2 ^ W) (bh (fun i => i &&& c = c) (gS0 t c) (2 ^ t) xs (2 ^ W))))) := by
  refine ⟨rfl, rfl, rfl, fun X hX => am_run hX 8 _ _ _ _ ?_⟩
  conv => whnf
  have key := bl_l107 (d := d) (M := mm_i M 105 (upd (M.1 105) 3 (M.1 105 3 + 1))) (g := g) (xs := xs) hX hN ht hcw hct (by rw [mm_i1]; exact hs) ⟨rfl, rfl⟩ (2 ^ W) 0 (by omega)
  rw [bh_0] at key
  exact key _ _ _ _ _
end GAT
