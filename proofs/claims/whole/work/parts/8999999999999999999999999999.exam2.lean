/-! code: the reference examines: which PAULIS are of the group; rows are cleared -/
def mB (x z : Nat → Nat) (n s : Nat) : Nat → Nat → Bool
  | 0, _ => false
  | e + 1, u => mB x z n s e u || decide (u = nuF (pxr x e s) (pxr z e s) n)
/-- what a PAULI is, so many products gone through -/
def exS (x z : Nat → Nat) (n s k u : Nat) : Int32 := if mB x z n s k u = true then 2 else if cdSy x z n s u = 0 then 1 else 0
section EXB
variable {d : Nat} {M : mm_M} {n s : Nat} {x z : Nat → Nat}
set_option maxRecDepth 100000 in
theorem ex_2 {P : am_Q} {X : am_X} (hX : am_K (d + 3) false nm_X12_examine P X) (hR : exR M n s x z) (hk : ∀ N l3 l4 l5, exF M N → (∀ u, u < 4 ^ n → N.1 181 u = exS x z n s (2 ^ s) u) → X 146 [some (aR 108), some (aI (nI (4 ^ n))), some (aI (nI (2 ^ s))), l3, l4, l5] [] N) : ∀ (m e : Nat) (N : mm_M) (l3 l4 l5 : Option am_V), e + m = 2 ^ s → exF M N → (∀ u, u < 4 ^ n → N.1 181 u = exS x z n s e u) → X 44 [some (aR 108), some (aI (nI (4 ^ n))), some (aI (nI e)), l3, l4, l5] [] N := by
  have h4 : 4 ^ n ≤ 65536 := Nat.pow_le_pow_right (n := 4) (j := 8) (by decide) hR.2.2.2.1
  have h8 : 2 ^ s ≤ 2 ^ 8 := Nat.pow_le_pow_right (by decide) hR.2.2.2.2.1
  intro m
  induction m with
  | zero =>
    intro e N l3 l4 l5 ee hF h
    obtain rfl : e = 2 ^ s := by omega
    have hN := exR_f hR hF
    refine am_run hX 6 _ _ _ _ ?_
    conv => whnf
    rw [hN.2.1, sh2 s (by have := hR.2.2.2.2.1; omega)]
    exact ⟨fun _ => hk N _ _ _ hF h, fun c => absurd (nI_le (Nat.le_refl _) (by omega)) c⟩
  | succ m ih =>
    intro e N l3 l4 l5 ee hF h
    have hN := exR_f hR hF
    have px : pxr x e s < 256 := pxr_lt (fun k hk => (hN.2.2.2.2.2 k hk).2.2.1)
    have pz : pxr z e s < 256 := pxr_lt (fun k hk => (hN.2.2.2.2.2 k hk).2.2.2)
    have hnu := nuF_l (pxr x e s) (pxr z e s) n
    refine am_run hX 12 _ _ _ _ ?_
    conv => whnf
    rw [hN.2.1, sh2 s (by have := hR.2.2.2.2.1; omega)]
    refine ⟨fun c => absurd c (nI_ge (by omega) (by omega)), fun _ => ?_⟩
    conv => whnf
    refine ex_pr (d := d) (e := e) (a := 4 ^ n) hX hN (by omega) (fun l5 => ?_) s 0 (by omega)
    refine am_run hX 10 _ _ _ _ ?_
    conv => whnf
    refine am_c1 (ct_numO (d := d + 2) hR.2.2.2.1 hN.1 px pz) ?_
    conv => whnf
    refine ⟨vp_in_nI (by show nuF _ _ n < 65536; omega) (by decide), ?_⟩
    conv => whnf
    rw [nI_clamp (n := nuF (pxr x e s) (pxr z e s) n) (by omega), show (if 3 = 2 then FieldType.boolean else FieldType.byte) = .byte from rfl, show vp_nar .byte 2 = 2 from ex_nar 2 (by decide), nI_1]
    refine ih (e + 1) _ _ _ _ (by omega) (exF_t hF (exF_i (by decide))) (fun u hu => ?_)
    rw [mm_i1]
    unfold upd
    by_cases eu : u = nuF (pxr x e s) (pxr z e s) n
    · rw [if_pos eu]
      unfold exS
      rw [if_pos]
      show (mB x z n s e u || decide (u = nuF (pxr x e s) (pxr z e s) n)) = true
      rw [decide_eq_true eu, Bool.or_true]
    · rw [if_neg eu, h u hu]
      unfold exS
      have : mB x z n s (e + 1) u = mB x z n s e u := by
        show (mB x z n s e u || decide (u = nuF (pxr x e s) (pxr z e s) n)) = _
        rw [decide_eq_false eu, Bool.or_false]
      rw [this]
set_option maxRecDepth 100000 in
/-- counts are cleared -/
theorem ex_3 {P : am_Q} {X : am_X} {a : Int32} {l3 l4 l5 : Option am_V} (hX : am_K (d + 3) false nm_X12_examine P X) (hk : ∀ N, exF M N → N.1 181 = M.1 181 → (∀ w, w < 9 → N.1 182 w = 0 ∧ N.1 183 w = 0 ∧ N.1 184 w = 0) → X 181 [some (aR 108), some (aI a), some (aI (nI 9)), l3, l4, l5] [] N) : ∀ (m i : Nat) (N : mm_M), i + m = 9 → exF M N → N.1 181 = M.1 181 → (∀ w, w < i → N.1 182 w = 0 ∧ N.1 183 w = 0 ∧ N.1 184 w = 0) → X 148 [some (aR 108), some (aI a), some (aI (nI i)), l3, l4, l5] [] N := by
  intro m
  induction m with
  | zero =>
    intro i N ei hF h1 h
    obtain rfl : i = 9 := by omega
    refine am_run hX 3 _ _ _ _ ?_
    conv => whnf
    exact ⟨fun _ => hk N hF h1 h, fun c => absurd (by decide) c⟩
  | succ m ih =>
    intro i N ei hF h1 h
    refine am_run hX 20 _ _ _ _ ?_
    conv => whnf
    refine ⟨fun c => absurd c (nI_ge (a := i) (b := 9) (by omega) (by decide)), fun _ => ?_⟩
    conv => whnf
    refine ⟨vp_in_nI (by show i < 9; omega) (by decide), ?_⟩
    conv => whnf
    refine ⟨vp_in_nI (by show i < 9; omega) (by decide), ?_⟩
    conv => whnf
    refine ⟨vp_in_nI (by show i < 9; omega) (by decide), ?_⟩
    conv => whnf
    rw [nI_clamp (n := i) (by omega), nI_1]
    refine ih (i + 1) _ (by omega) (exF_t (exF_t (exF_t hF (exF_i (by decide))) (exF_i (by decide))) (exF_i (by decide))) ?_ (fun w hw => ?_)
    · rw [mm_ne _ _ _ _ (by decide), mm_ne _ _ _ _ (by decide), mm_ne _ _ _ _ (by decide)]
      exact h1
    · show upd (N.1 182) i 0 w = 0 ∧ upd (N.1 183) i 0 w = 0 ∧ upd (N.1 184) i 0 w = 0
      unfold upd
      by_cases e : w = i
      · rw [if_pos e, if_pos e, if_pos e]
        exact ⟨rfl, rfl, rfl⟩
      · rw [if_neg e, if_neg e, if_neg e]
        exact h w (by omega)
set_option maxRecDepth 100000 in
/-- corrections are cleared -/
theorem ex_4 {P : am_Q} {X : am_X} {a : Int32} {l3 l4 l5 : Option am_V} (hX : am_K (d + 3) false nm_X12_examine P X) (hk : ∀ N, exF M N → (∀ k, k ≠ 185 → N.1 k = M.1 k) → (∀ w, w < 256 → N.1 185 w = -1) → X 203 [some (aR 108), some (aI a), some (aI (nI 256)), l3, l4, l5] [] N) : ∀ (m i : Nat) (N : mm_M), i + m = 256 → exF M N → (∀ k, k ≠ 185 → N.1 k = M.1 k) → (∀ w, w < i → N.1 185 w = -1) → X 183 [some (aR 108), some (aI a), some (aI (nI i)), l3, l4, l5] [] N := by
  intro m
  induction m with
  | zero =>
    intro i N ei hF h1 h
    obtain rfl : i = 256 := by omega
    refine am_run hX 3 _ _ _ _ ?_
    conv => whnf
    exact ⟨fun _ => hk N hF h1 h, fun c => absurd (by decide) c⟩
  | succ m ih =>
    intro i N ei hF h1 h
    refine am_run hX 10 _ _ _ _ ?_
    conv => whnf
    refine ⟨fun c => absurd c (nI_ge (a := i) (b := 256) (by omega) (by decide)), fun _ => ?_⟩
    conv => whnf
    refine ⟨vp_in_nI (by show i < 256; omega) (by decide), ?_⟩
    conv => whnf
    rw [nI_clamp (n := i) (by omega), nI_1]
    refine ih (i + 1) _ (by omega) (exF_t hF (exF_i (by decide))) (fun k a => ?_) (fun w hw => ?_)
    · rw [mm_ne _ _ _ _ a]
      exact h1 k a
    · rw [mm_i1]
      unfold upd
      by_cases e : w = i
      · rw [if_pos e]
      · rw [if_neg e]
        exact h w (by omega)
end EXB
