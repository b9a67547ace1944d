/-! spoil: the pair -/
section SPY
variable {d W r y k : Nat} {M : mm_M} {xs : Nat → R4}
set_option maxRecDepth 100000 in
theorem so_z {v1 v2 v3 : Int32} {l5 l6 l7 : Option am_V} {Pp : am_Q} {X : am_X} (hX : am_K d false nm_X12_spoil Pp X) (hE : ∀ f l4, (∀ j, j < 320 → f j = 0) → X 91 [some (aR 108), some (aI v1), some (aI v2), some (aI v3), l4, l5, l6, l7] [] (mm_l M 163 f)) : ∀ m i f, i + m = 320 → (∀ j, j < i → f j = 0) → X 69 [some (aR 108), some (aI v1), some (aI v2), some (aI v3), some (aI (nI i)), l5, l6, l7] [] (mm_l M 163 f) := by
  intro m
  induction m with
  | zero =>
    intro i f hi hf
    have hi : i = 320 := by omega
    subst hi
    refine am_run hX 3 _ _ _ _ ?_
    conv => whnf
    exact ⟨fun _ => hE f _ hf, fun c => absurd (by decide) c⟩
  | succ m ih =>
    intro i f hi hf
    refine am_run hX 3 _ _ _ _ ?_
    conv => whnf
    refine ⟨fun c => absurd c (nI_ge (b := 320) (by omega) (by decide)), fun _ => ?_⟩
    refine am_run hX 7 _ _ _ _ ?_
    conv => whnf
    refine ⟨vp_in_nI (by show i < 320; omega) (by decide), ?_⟩
    conv => whnf
    rw [nI_clamp (n := i) (by omega), mm_ll, nI_1, mm_l2]
    refine ih (i + 1) _ (by omega) fun j hj => ?_
    unfold vp_updL
    by_cases e : j = i
    · rw [if_pos e]
    · rw [if_neg e]
      exact hf j (by omega)
set_option maxRecDepth 100000 in
theorem so_cp {v1 v2 v3 : Int32} {l5 l6 l7 : Option am_V} {Pp : am_Q} {X : am_X} (hX : am_K d false nm_X12_spoil Pp X) (hE : ∀ f, (∀ j, j < 320 → f j = M.2 163 j) → Pp (.inl (some (aI 1))) (mm_l M 162 f)) : ∀ m i f, i + m = 320 → (∀ j, j < i → f j = M.2 163 j) → X 265 [some (aR 108), some (aI v1), some (aI v2), some (aI v3), some (aI (nI i)), l5, l6, l7] [] (mm_l M 162 f) := by
  intro m
  induction m with
  | zero =>
    intro i f hi hf
    have hi : i = 320 := by omega
    subst hi
    refine am_run hX 3 _ _ _ _ ?_
    conv => whnf
    refine ⟨fun _ => ?_, fun c => absurd (by decide) c⟩
    refine am_run hX 2 _ _ _ _ ?_
    conv => whnf
    exact ⟨rfl, hE f hf⟩
  | succ m ih =>
    intro i f hi hf
    have hI : vp_in (nI i) 320 := vp_in_nI (by omega) (by decide)
    refine am_run hX 3 _ _ _ _ ?_
    conv => whnf
    refine ⟨fun c => absurd c (nI_ge (b := 320) (by omega) (by decide)), fun _ => ?_⟩
    refine am_run hX 7 _ _ _ _ ?_
    conv => whnf
    refine ⟨hI, ?_⟩
    conv => whnf
    refine am_run hX 3 _ _ _ _ ?_
    conv => whnf
    refine ⟨hI, ?_⟩
    conv => whnf
    rw [nI_clamp (n := i) (by omega), mm_ll, nI_1, mm_l2, mm_lne _ 162 163 _ (by decide)]
    refine ih (i + 1) _ (by omega) fun j hj => ?_
    unfold vp_updL
    by_cases e : j = i
    · rw [if_pos e, e]
    · rw [if_neg e]
      exact hf j (by omega)
/-- what the reference may change -/
def soG (N N' : mm_M) (b : Nat) : Prop := (∀ k, k ≠ 108 → N'.1 k = N.1 k) ∧ (∀ j, j ≠ 0 → j ≠ 90 → N'.1 108 j = N.1 108 j) ∧ N'.1 108 0 = 0 ∧ N'.1 108 90 = nI (b + 1) ∧ ∀ c, c ≠ 118 → c ≠ 119 → c ≠ 162 → c ≠ 163 → N'.2 c = N.2 c
set_option maxRecDepth 100000 in
theorem soR_g {p q s : Int32} {Pp : am_Q} (h88 : ¬ M.1 108 88 = -1) (hno : ¬ okP (M.1 108 88) p q s → Pp (.inl (some (aI 0))) (th0 M)) (hyes : okP (M.1 108 88) p q s → ∀ X, am_K d false nm_X12_spoil Pp X → X 45 [some (aR 108), some (aI p), some (aI q), some (aI s), none, none, none, none] [] (th0 M)) : am_M (d + 1) false nm_X12_spoil [aR 108, aI p, aI q, aI s] M Pp := by
  refine ⟨rfl, rfl, rfl, fun X hX => am_run hX 7 _ _ _ _ ?_⟩
  have no : ¬ okP (M.1 108 88) p q s → X 54 [some (aR 108), some (aI p), some (aI q), some (aI s), none, none, none, none] [] (th0 M) := fun h => by
    refine am_run hX 2 _ _ _ _ ?_
    conv => whnf
    exact ⟨rfl, hno h⟩
  conv => whnf
  refine ⟨fun c => absurd c h88, fun _ => ?_⟩
  show X 13 _ _ (th0 M)
  refine am_run hX 2 _ _ _ _ ?_
  conv => whnf
  refine ⟨fun c => no fun h => h.1.1 c, fun c1 => ?_⟩
  refine am_run hX 4 _ _ _ _ ?_
  conv => whnf
  refine ⟨fun c => no fun h => h.1.2 c, fun c2 => ?_⟩
  refine am_run hX 2 _ _ _ _ ?_
  conv => whnf
  refine ⟨fun c => no fun h => h.2.1.1 c, fun c3 => ?_⟩
  refine am_run hX 3 _ _ _ _ ?_
  conv => whnf
  refine ⟨fun c => no fun h => h.2.1.2 c, fun c4 => ?_⟩
  refine am_run hX 3 _ _ _ _ ?_
  conv => whnf
  refine ⟨fun c => no fun h => h.2.2.1 c, fun c5 => ?_⟩
  refine am_run hX 3 _ _ _ _ ?_
  conv => whnf
  refine ⟨fun c => no fun h => absurd h.2.2.2 (Int32.not_le.mpr c), fun c6 => ?_⟩
  exact hyes ⟨⟨c1, c2⟩, ⟨c3, c4⟩, c5, Int32.not_lt.mp c6⟩ X hX
set_option maxRecDepth 100000 in
theorem soR_0 {p q s : Int32} (h : M.1 108 88 = -1 ∨ ¬ okP (M.1 108 88) p q s ∨ M.1 108 90 = nI 6) : am_M (d + 1) false nm_X12_spoil [aR 108, aI p, aI q, aI s] M (am_q1 (aI 0) (th0 M)) := by
  by_cases h88 : M.1 108 88 = -1
  · refine ⟨rfl, rfl, rfl, fun X hX => am_run hX 7 _ _ _ _ ?_⟩
    conv => whnf
    refine ⟨fun _ => ?_, fun c => absurd h88 c⟩
    refine am_run hX 2 _ _ _ _ ?_
    conv => whnf
    exact ⟨rfl, rfl, rfl⟩
  · refine soR_g (d := d) h88 (fun _ => ⟨rfl, rfl⟩) (fun ho X hX => ?_)
    have h6 := (h.resolve_left h88).resolve_left fun z => z ho
    refine am_run hX 4 _ _ _ _ ?_
    conv => whnf
    rw [show (th0 M).1 108 90 = nI 6 from h6]
    refine ⟨fun c => absurd rfl c, fun _ => ?_⟩
    refine am_run hX 2 _ _ _ _ ?_
    conv => whnf
    exact ⟨rfl, rfl, rfl⟩
set_option maxRecDepth 100000 in
theorem soR_1 {K b : Nat} (hW : W ≤ 3) (hr : r < W) (hy : y < 4) (hk : k < 17) (hK : K ≤ 120) (e88 : M.1 108 88 = nI W) (h90 : M.1 108 90 = nI b) (b6 : b < 6) (ho : okP (nI W) (nI r) (nI y) (nI k)) (hb : ∀ c, c < 2 ^ (2 * W) → bbN 1 (xs c)) (hx : ∀ i j, i < 2 ^ W → j < 2 ^ W → at5 (M.2 162) (5 * (8 * i + j)) (red K (xs (i + 2 ^ W * j))).1 (red K (xs (i + 2 ^ W * j))).2) : am_M (d + 5) false nm_X12_spoil [aR 108, aI (nI r), aI (nI y), aI (nI k)] M (fun t N => t = .inl (some (aI 1)) ∧ soG M N b ∧ ∀ i j, i < 2 ^ W → j < 2 ^ W → at5 (N.2 162) (5 * (8 * i + j)) (red (K + spQ y) (spN W r y k xs (i + 2 ^ W * j))).1 (red (K + spQ y) (spN W r y k xs (i + 2 ^ W * j))).2) := by
  have w8 : 2 ^ W ≤ 8 := (Nat.pow_le_pow_right (n := 2) (by decide) hW : 2 ^ W ≤ 2 ^ 3)
  refine soR_g (d := d + 4) (by rw [e88]; exact nI_nm (by omega)) (fun z => absurd (by rw [e88]; exact ho) z) (fun _ X hX => ?_)
  refine am_run hX 4 _ _ _ _ ?_
  conv => whnf
  rw [show (th0 M).1 108 90 = nI b from h90]
  refine ⟨fun _ => ?_, fun c => absurd (fun z => by have := (nI_eq (b := 6) (by omega) (by decide)).mp z; omega) c⟩
  refine am_run hX 6 _ _ _ _ ?_
  conv => whnf
  rw [show (th0 M).1 108 90 = nI b from h90, nI_1]
  have E1 : ∀ j, j ≠ 0 → j ≠ 90 → (mm_i (th0 M) 108 (upd ((th0 M).1 108) 90 (nI (b + 1)))).1 108 j = M.1 108 j := fun j a c => by
    show upd (upd (M.1 108) 0 0) 90 (nI (b + 1)) j = M.1 108 j
    unfold upd
    rw [if_neg c, if_neg a]
  have E2 : ∀ q, q ≠ 108 → (mm_i (th0 M) 108 (upd ((th0 M).1 108) 90 (nI (b + 1)))).1 q = M.1 q := fun q a => by
    simp [th0, mm_i, a]
  have E3 : (mm_i (th0 M) 108 (upd ((th0 M).1 108) 90 (nI (b + 1)))).1 108 0 = 0 := rfl
  have E4 : (mm_i (th0 M) 108 (upd ((th0 M).1 108) 90 (nI (b + 1)))).1 108 90 = nI (b + 1) := rfl
  have E5 : (mm_i (th0 M) 108 (upd ((th0 M).1 108) 90 (nI (b + 1)))).2 = M.2 := rfl
  generalize mm_i (th0 M) 108 (upd ((th0 M).1 108) 90 (nI (b + 1))) = N0 at *
  refine am_run hX 2 _ _ _ _ ?_
  conv => whnf
  have key := so_z (d := d + 4) (M := N0) (v1 := nI r) (v2 := nI y) (v3 := nI k) (l5 := none) (l6 := none) (l7 := none) hX (fun f l4 hf => ?_) 320 0 (N0.2 163) (by omega) (fun j hj => absurd hj (Nat.not_lt_zero _))
  · rw [mm_lz] at key
    exact key
  refine am_run hX 2 _ _ _ _ ?_
  conv => whnf
  have hz : ∀ i j, i < 2 ^ W → j < 2 ^ W → at5 f (5 * (8 * i + j)) (0, 0, 0, 0) 0 := fun i j hi hj => ⟨hf _ (by omega), hf _ (by omega), hf _ (by omega), hf _ (by omega), hf _ (by omega)⟩
  refine so_i (d := d) (M := mm_l N0 163 f) (xs := xs) hX hW hr hK hy hk ((E1 88 (by decide) (by decide)).trans e88) hb (fun i j hi hj => ?_) (fun N l5 l6 l7 f1 d1 => ?_) (2 ^ W) 0 (mm_l N0 163 f) none none none (by omega) ⟨rfl, fun _ _ _ _ => rfl⟩ ⟨fun a c _ _ h => by omega, fun i j hi hj _ => ?_⟩
  · rw [mm_lne _ 163 162 _ (by decide), E5]
    exact hx i j hi hj
  · refine am_run hX 2 _ _ _ _ ?_
    conv => whnf
    have k2 := so_cp (d := d + 4) (M := N) (v1 := nI r) (v2 := nI y) (v3 := nI k) (l5 := l5) (l6 := l6) (l7 := l7) hX (fun f2 hf2 => ?_) 320 0 (N.2 162) (by omega) (fun j hj => absurd hj (Nat.not_lt_zero _))
    · rw [mm_lz] at k2
      exact k2
    refine ⟨rfl, ⟨fun q a => ?_, fun j a c => ?_, ?_, ?_, fun c a1 a2 a3 a4 => ?_⟩, fun i j hi hj => ?_⟩
    · show N.1 q = M.1 q
      rw [f1.1]
      exact E2 q a
    · show N.1 108 j = M.1 108 j
      rw [f1.1]
      exact E1 j a c
    · show N.1 108 0 = 0
      rw [f1.1]
      exact E3
    · show N.1 108 90 = nI (b + 1)
      rw [f1.1]
      exact E4
    · rw [mm_lne _ 162 c _ (fun z => a3 z), f1.2 c a1 a2 a4, mm_lne _ 163 c _ (fun z => a4 z), E5]
    · rw [mm_l2]
      exact at5_e (fun q q1 q2 => hf2 q (by omega)) (d1.1 i j hi hj (Or.inl hi))
  · rw [mm_l2]
    exact hz i j hi hj
end SPY
