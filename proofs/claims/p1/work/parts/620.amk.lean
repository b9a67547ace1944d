/-! THE MEMORY'S MACHINE: calls, ends, pairs -/
abbrev aI (a : Int32) : am_V := .inl a
abbrev aJ (a : Int64) : am_V := .inr (.inl a)
abbrev aR (k : Nat) : am_V := .inr (.inr (some k))
def am_q1 (v : am_V) (M1 : mm_M) : am_Q := fun r M => r = .inl (some v) ∧ M = M1
def am_q0 (M1 : mm_M) : am_Q := fun r M => r = .inl none ∧ M = M1
theorem am_c1 {cs : am_C} {x : Nat} {as : List am_V} {M M1 : mm_M} {v : am_V} {K : Option am_V → mm_M → Prop} (hc : cs x as M (am_q1 v M1)) (k : K (some v) M1) : ∃ q : am_Q, cs x as M q ∧ ∀ r M', q r M' → ∃ v' : Option am_V, r = .inl v' ∧ K v' M' :=
  ⟨_, hc, fun r M' h => ⟨some v, h.1, by rw [h.2]; exact k⟩⟩
theorem am_c0 {cs : am_C} {x : Nat} {as : List am_V} {M M1 : mm_M} {K : Option am_V → mm_M → Prop} (hc : cs x as M (am_q0 M1)) (k : K none M1) : ∃ q : am_Q, cs x as M q ∧ ∀ r M', q r M' → ∃ v' : Option am_V, r = .inl v' ∧ K v' M' :=
  ⟨_, hc, fun r M' h => ⟨none, h.1, by rw [h.2]; exact k⟩⟩
theorem am_cq {cs : am_C} {x : Nat} {as : List am_V} {M : mm_M} {q : am_Q} {K : Option am_V → mm_M → Prop} (hc : cs x as M q) (k : ∀ r M', q r M' → ∃ v' : Option am_V, r = .inl v' ∧ K v' M') : ∃ q : am_Q, cs x as M q ∧ ∀ r M', q r M' → ∃ v' : Option am_V, r = .inl v' ∧ K v' M' :=
  ⟨q, hc, k⟩
/-- what is used of X -/
def am_K (d : Nat) (t : Bool) (x : Nat) (post : am_Q) (X : am_X) : Prop := ∀ pc L st M, am_G (am_M d false) post X (am_st d t (xp_row x).2.2.2.1 ((xp_row x).2.2.2.2.1.lookup pc) pc L st M) → X pc L st M
theorem mm_ii (M : mm_M) (k : Nat) (f g : Nat → Int32) : mm_i (mm_i M k f) k g = mm_i M k g := by
  unfold mm_i
  refine Prod.ext (funext fun q => ?_) rfl
  by_cases h : q = k
  · simp [h]
  · simp [h]
theorem mm_i1 (M : mm_M) (k : Nat) (f : Nat → Int32) : (mm_i M k f).1 k = f := by simp [mm_i]
theorem mm_i2 (M : mm_M) (k : Nat) (f : Nat → Int32) : (mm_i M k f).2 = M.2 := rfl
theorem mm_iz (M : mm_M) (k : Nat) : mm_i M k (M.1 k) = M := by
  unfold mm_i
  refine Prod.ext (funext fun q => ?_) rfl
  by_cases h : q = k
  · simp [h]
  · simp [h]
theorem mm_ne (M : mm_M) (k j : Nat) (f : Nat → Int32) (h : j ≠ k) : (mm_i M k f).1 j = M.1 j := by simp [mm_i, h]
theorem upd_two (f : Nat → Int32) (y : Nat) (a b : Int32) : upd (upd f y a) y b = upd f y b := by
  funext j
  simp only [upd]
  by_cases h : j = y
  · simp [h]
  · simp [h]
theorem upd_self (f : Nat → Int32) (y : Nat) : upd f y (f y) = f := by
  funext j
  simp only [upd]
  by_cases h : j = y
  · simp [h]
  · simp [h]
theorem mm_ll (M : mm_M) (k : Nat) (f g : Nat → Int64) : mm_l (mm_l M k f) k g = mm_l M k g := by
  unfold mm_l
  refine Prod.ext rfl (funext fun q => ?_)
  by_cases h : q = k
  · simp [h]
  · simp [h]
theorem mm_l2 (M : mm_M) (k : Nat) (f : Nat → Int64) : (mm_l M k f).2 k = f := by simp [mm_l]
theorem mm_l1 (M : mm_M) (k : Nat) (f : Nat → Int64) : (mm_l M k f).1 = M.1 := rfl
theorem mm_lz (M : mm_M) (k : Nat) : mm_l M k (M.2 k) = M := by
  unfold mm_l
  refine Prod.ext rfl (funext fun q => ?_)
  by_cases h : q = k
  · simp [h]
  · simp [h]
theorem mm_lne (M : mm_M) (k j : Nat) (f : Nat → Int64) (h : j ≠ k) : (mm_l M k f).2 j = M.2 j := by simp [mm_l, h]
theorem am_G_p {cs : am_C} {p q : am_Q} {X : am_X} (m : ∀ r M, p r M → q r M) : ∀ {o : am_O}, am_G cs p X o → am_G cs q X o
  | .inl (_, _, _, _), h => h
  | .inr (.inl (_, _, _, _, _)), h => h
  | .inr (.inr (.inl (_, (_, _, _, _), (_, _, _, _)))), h => h
  | .inr (.inr (.inr (.inl (_, _, _, _, _, _)))), h => h
  | .inr (.inr (.inr (.inr (.inl (_, _, _, _, _, _))))), h => h
  | .inr (.inr (.inr (.inr (.inr (.inl (_, _, _)))))), h => ⟨h.1, m _ _ h.2⟩
/-- less is said of the end -/
theorem am_wk {p q : am_Q} : ∀ {d : Nat} {t : Bool} {x : Nat} {as : List am_V} {M : mm_M}, am_M d t x as M p → (∀ r M, p r M → q r M) → am_M d t x as M q
  | 0, _, _, _, _, h, _ => h.elim
  | d + 1, t, x, as, M, h, m => ⟨h.1, h.2.1, h.2.2.1, fun X hX => h.2.2.2 X fun pc L st M hG => hX pc L st M (am_G_p m hG)⟩
/-- what a method comes to is one thing -/
theorem am_det : ∀ (d : Nat) (t : Bool) (x : Nat) (as : List am_V) (M : mm_M) (q : am_Q), am_M d t x as M q → ∃ r M1, q r M1 ∧ am_M d t x as M (fun r' M' => r' = r ∧ M' = M1)
  | 0, _, _, _, _, _, h => h.elim
  | d + 1, t, x, as, M, q, h => by
    obtain ⟨h1, h2, h3, h4⟩ := h
    have key := h4 (fun pc L st M => ∃ r M1, q r M1 ∧ ∀ Y : am_X, (∀ pc L st M, am_G (am_M d false) (fun r' M' => r' = r ∧ M' = M1) Y (am_st d t (xp_row x).2.2.2.1 ((xp_row x).2.2.2.2.1.lookup pc) pc L st M) → Y pc L st M) → Y pc L st M) (fun pc L st M hG => by
      cases ho : am_st d t (xp_row x).2.2.2.1 ((xp_row x).2.2.2.2.1.lookup pc) pc L st M with
      | inl s =>
        obtain ⟨pc1, L1, st1, M9⟩ := s
        rw [ho] at hG
        obtain ⟨r, M1, hq, hY⟩ := hG
        exact ⟨r, M1, hq, fun Y cY => cY _ _ _ _ (by rw [ho]; exact hY Y cY)⟩
      | inr o => cases o with
        | inl s =>
          obtain ⟨c9, pc1, L1, st1, M9⟩ := s
          rw [ho] at hG
          obtain ⟨hc, r, M1, hq, hY⟩ := hG
          exact ⟨r, M1, hq, fun Y cY => cY _ _ _ _ (by rw [ho]; exact ⟨hc, hY Y cY⟩)⟩
        | inr o => cases o with
          | inl s =>
            obtain ⟨c9, ⟨pc1, L1, st1, M9⟩, ⟨pc2, L2, st2, M8⟩⟩ := s
            rw [ho] at hG
            by_cases hc : c9
            · obtain ⟨r, M1, hq, hY⟩ := hG.1 hc
              exact ⟨r, M1, hq, fun Y cY => cY _ _ _ _ (by rw [ho]; exact ⟨fun _ => hY Y cY, fun c => absurd hc c⟩)⟩
            · obtain ⟨r, M1, hq, hY⟩ := hG.2 hc
              exact ⟨r, M1, hq, fun Y cY => cY _ _ _ _ (by rw [ho]; exact ⟨fun c => absurd c hc, fun _ => hY Y cY⟩)⟩
          | inr o => cases o with
            | inl s =>
              obtain ⟨a, ts, pc1, L1, st1, M9⟩ := s
              rw [ho] at hG
              have hs : ∃ p : Nat, (∀ K : Nat → Prop, K p → xm_sw a K pc1 ts) ∧ ∃ r M1, q r M1 ∧ ∀ Y : am_X, (∀ pc L st M, am_G (am_M d false) (fun r' M' => r' = r ∧ M' = M1) Y (am_st d t (xp_row x).2.2.2.1 ((xp_row x).2.2.2.2.1.lookup pc) pc L st M) → Y pc L st M) → Y p L1 st1 M9 := by
                clear ho
                have hG : xm_sw a (fun p => ∃ r M1, q r M1 ∧ ∀ Y : am_X, (∀ pc L st M, am_G (am_M d false) (fun r' M' => r' = r ∧ M' = M1) Y (am_st d t (xp_row x).2.2.2.1 ((xp_row x).2.2.2.2.1.lookup pc) pc L st M) → Y pc L st M) → Y p L1 st1 M9) pc1 ts := hG
                induction ts with
                | nil => exact ⟨pc1, fun K k => k, hG⟩
                | cons w ts ih =>
                  by_cases hw : a = w.1
                  · exact ⟨w.2, fun K k => ⟨fun _ => k, fun c => absurd hw c⟩, hG.1 hw⟩
                  · obtain ⟨p, hp1, hp2⟩ := ih (hG.2 hw) (hG.2 hw)
                    exact ⟨p, fun K k => ⟨fun c => absurd c hw, fun _ => hp1 K k⟩, hp2⟩
              obtain ⟨p, hp1, r, M1, hq, hY⟩ := hs
              exact ⟨r, M1, hq, fun Y cY => cY _ _ _ _ (by rw [ho]; exact hp1 _ (hY Y cY))⟩
            | inr o => cases o with
              | inl s =>
                obtain ⟨x', as', pc1, L1, st1, M9⟩ := s
                rw [ho] at hG
                obtain ⟨q', hq', hk⟩ := hG
                obtain ⟨r0, M0, hq0, hm0⟩ := am_det d false x' as' M9 q' hq'
                obtain ⟨v, rfl, r, M1, hq, hY⟩ := hk r0 M0 hq0
                exact ⟨r, M1, hq, fun Y cY => cY _ _ _ _ (by
                  rw [ho]
                  refine ⟨_, hm0, fun r' M' hr' => ?_⟩
                  obtain ⟨e1, e2⟩ := hr'
                  subst e1
                  subst e2
                  exact ⟨v, rfl, hY Y cY⟩)⟩
              | inr o => cases o with
                | inl s =>
                  obtain ⟨c, r, M1⟩ := s
                  rw [ho] at hG
                  exact ⟨r, M1, hG.2, fun Y cY => cY _ _ _ _ (by rw [ho]; exact ⟨hG.1, rfl, rfl⟩)⟩
                | inr u =>
                  rw [ho] at hG
                  exact hG.elim)
    obtain ⟨r, M1, hq, hY⟩ := key
    exact ⟨r, M1, hq, h1, h2, h3, fun X hX => hY X hX⟩
theorem am_p1 (hp : mm_M → Nat → xm_H) (lo : Nat) (ad : Nat → Nat) (z : Nat) (v : am_V) (M1 : mm_M) : am_p hp lo ad z (fun r' M' => r' = .inl (some v) ∧ M' = M1) = xq1 (am_c lo ad v) (hp M1 z) := by
  funext r h
  apply propext
  constructor
  · rintro ⟨r', M', z', e1, e2, e3, e4, e5⟩
    subst e4
    subst e5
    have := e3 ⟨_, rfl⟩
    subst this
    exact ⟨e1, e2⟩
  · rintro ⟨e1, e2⟩
    exact ⟨.inl (some v), M1, z, e1, e2, fun _ => rfl, rfl, rfl⟩
theorem am_p0 (hp : mm_M → Nat → xm_H) (lo : Nat) (ad : Nat → Nat) (z : Nat) (M1 : mm_M) : am_p hp lo ad z (fun r' M' => r' = .inl none ∧ M' = M1) = xq0 (hp M1 z) := by
  funext r h
  apply propext
  constructor
  · rintro ⟨r', M', z', e1, e2, e3, e4, e5⟩
    subst e4
    subst e5
    have := e3 ⟨_, rfl⟩
    subst this
    exact ⟨e1, e2⟩
  · rintro ⟨e1, e2⟩
    exact ⟨.inl none, M1, z, e1, e2, fun _ => rfl, rfl, rfl⟩
theorem pr_in {i : Int32} {k n : Nat} (h1 : ¬ i < 0) (h2 : ¬ Int32.ofNat k < i) (h3 : k + 1 = n ∧ n < 2 ^ 31) : vp_in i n := by
  obtain ⟨j, hj, rfl⟩ := nI_of h1
  obtain ⟨rfl, h3⟩ := h3
  refine vp_in_nI ?_ (by omega)
  apply Decidable.byContradiction
  intro hc
  exact h2 ((nI_ltI (by omega) hj).mpr (by omega))
theorem pr_lt {i : Int32} {n : Nat} (h : vp_in i n) : i.toNatClampNeg < n := by
  apply Decidable.byContradiction
  intro hc
  exact h (Or.inr (by omega))
section AMP
variable {ac : Nat → ClassId} {lo : Nat} {ad as : Nat → Nat} {b L : Nat} {xs : Nat → Int32} {hp : mm_M → Nat → xm_H} {I J : mm_M → Prop} {f1 f2 : Nat} {us : List am_V}
theorem am_as {lo : Nat} {ad : Nat → Nat} (k : Nat) (hk : k < 1000) (us : List am_V) : (aR k :: us).map (am_c lo ad) = .ref (lo + k) :: us.map (am_c lo ad) := by
  rw [List.map_cons]
  simp only [am_c]
  rw [am_adk hk]
/-- a pair, by contracts of the memory's machine, the reference's behind the class's -/
theorem am_la_I (H : mm_L ac lo hp) (h : ∀ M, I M → am_M 1000 false f1 (aR 0 :: us) M (fun r M1 => ∃ v, r = .inl (some (aI v)) ∧ am_M 1000 false f2 (aR 108 :: us) M1 (fun r' M2 => r' = .inl (some (aI v)) ∧ J M2))) : la_I ac lo ad as b L xs hp I J f1 f2 (us.map (am_c lo ad)) := by
  intro M z hI
  obtain ⟨r, M1, ⟨v, rfl, h2⟩, h1⟩ := am_det _ _ _ _ _ _ (h M hI)
  obtain ⟨r', M2, ⟨rfl, hJ⟩, h2⟩ := am_det _ _ _ _ _ _ h2
  refine ⟨v, M1, M2, ?_, ?_, hJ⟩
  · have := am_sound (ad := ad) (sa := as) (b := b) (L0 := L) (xs := xs) H _ _ _ _ _ _ h1 z
    rw [am_p1, am_as 0 (by decide)] at this
    exact this
  · have := am_sound (ad := ad) (sa := as) (b := b) (L0 := L) (xs := xs) H _ _ _ _ _ _ h2 z
    rw [am_p1, am_as 108 (by decide)] at this
    exact this
theorem am_la_J (H : mm_L ac lo hp) (h : ∀ M, I M → am_M 1000 false f1 (aR 0 :: us) M (fun r M1 => ∃ v, r = .inl (some (aJ v)) ∧ am_M 1000 false f2 (aR 108 :: us) M1 (fun r' M2 => r' = .inl (some (aJ v)) ∧ J M2))) : la_J ac lo ad as b L xs hp I J f1 f2 (us.map (am_c lo ad)) := by
  intro M z hI
  obtain ⟨r, M1, ⟨v, rfl, h2⟩, h1⟩ := am_det _ _ _ _ _ _ (h M hI)
  obtain ⟨r', M2, ⟨rfl, hJ⟩, h2⟩ := am_det _ _ _ _ _ _ h2
  refine ⟨v, M1, M2, ?_, ?_, hJ⟩
  · have := am_sound (ad := ad) (sa := as) (b := b) (L0 := L) (xs := xs) H _ _ _ _ _ _ h1 z
    rw [am_p1, am_as 0 (by decide)] at this
    exact this
  · have := am_sound (ad := ad) (sa := as) (b := b) (L0 := L) (xs := xs) H _ _ _ _ _ _ h2 z
    rw [am_p1, am_as 108 (by decide)] at this
    exact this
theorem am_la_V (H : mm_L ac lo hp) (h : ∀ M, I M → am_M 1000 false f1 (aR 0 :: us) M (fun r M1 => r = .inl none ∧ am_M 1000 false f2 (aR 108 :: us) M1 (fun r' M2 => r' = .inl none ∧ J M2))) : la_V ac lo ad as b L xs hp I J f1 f2 (us.map (am_c lo ad)) := by
  intro M z hI
  obtain ⟨r, M1, ⟨rfl, h2⟩, h1⟩ := am_det _ _ _ _ _ _ (h M hI)
  obtain ⟨r', M2, ⟨rfl, hJ⟩, h2⟩ := am_det _ _ _ _ _ _ h2
  refine ⟨M1, M2, ?_, ?_, hJ⟩
  · have := am_sound (ad := ad) (sa := as) (b := b) (L0 := L) (xs := xs) H _ _ _ _ _ _ h1 z
    rw [am_p0, am_as 0 (by decide)] at this
    exact this
  · have := am_sound (ad := ad) (sa := as) (b := b) (L0 := L) (xs := xs) H _ _ _ _ _ _ h2 z
    rw [am_p0, am_as 108 (by decide)] at this
    exact this
end AMP
