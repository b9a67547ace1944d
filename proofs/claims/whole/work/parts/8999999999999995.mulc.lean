/-! PRODUCTS of SUMS: the class's findFirsts and takeGathered -/
theorem mi_self {M : mm_M} {k : Nat} : mm_i M k (M.1 k) = M := by
  refine Prod.ext (funext fun j => ?_) rfl
  by_cases h : j = k
  · subst h
    simp [mm_i]
  · simp [mm_i, h]
theorem mi_two {M : mm_M} {k : Nat} {f f' : Nat → Int32} : mm_i (mm_i M k f) k f' = mm_i M k f' := by
  refine Prod.ext (funext fun j => ?_) rfl
  by_cases h : j = k
  · simp [mm_i, h]
  · simp [mm_i, h]
/-- by x's: the first TERM that has these or greater ones -/
def foP (F : Nat → Int32) (κ : Nat → Nat) (s m : Nat) : Prop := ∀ y, y < m → ∃ v, v ≤ s ∧ F y = nI v ∧ (∀ j, j < v → κ j / 256 < y) ∧ ∀ j, v ≤ j → j < s → y ≤ κ j / 256
section FFS
variable {d : Nat} {M : mm_M} {rr rp : Nat} {T : SU}
set_option maxRecDepth 100000 in
theorem ff_i {Pp : am_Q} {X : am_X} {F : Nat → Int32} {xs : Nat} (hX : am_K d false nm_X9_findFirsts Pp X) (hc : (rr = 0 ∧ rp = 0) ∨ (rr = 0 ∧ rp = 1) ∨ (rr = 1 ∧ rp = 0) ∨ (rr = 1 ∧ rp = 1) ∨ (rr = 2 ∧ rp = 2)) (hR : M.1 84 rr = nI rp) (h2 : csS M rp rr T) (oT : orS T) (hxs : xs < 257) (hK : ∀ v, v ≤ T.1 → (∀ j, j < v → T.2.2.1 j / 256 < xs) → (∀ j, v ≤ j → j < T.1 → xs ≤ T.2.2.1 j / 256) → X 42 [some (aR 83), some (aI (nI rr)), some (aI (nI v)), some (aI (nI xs))] [] (mm_i M 103 F)) : ∀ w v, v + w = T.1 → (∀ j, j < v → T.2.2.1 j / 256 < xs) → X 11 [some (aR 83), some (aI (nI rr)), some (aI (nI v)), some (aI (nI xs))] [] (mm_i M 103 F) := by
  have hin : vp_in (nI rr) 3 := vp_in_nI (by omega) (by decide)
  have t2 := oT.1
  have h96 : (mm_i M 103 F).1 96 (nI rr).toNatClampNeg = nI T.1 := by rw [nI_clamp (by omega)]; exact h2.1
  have eR1 : (mm_i M 103 F).1 84 (nI rr).toNatClampNeg = nI rp := by rw [nI_clamp (by omega)]; exact hR
  intro w
  induction w with
  | zero =>
    intro v hv hlo
    have hv : v = T.1 := by omega
    subst hv
    refine am_run hX 6 _ _ _ _ ?_
    conv => whnf
    refine ⟨hin, ?_⟩
    conv => whnf
    rw [h96]
    refine ⟨fun _ => ?_, fun c => absurd (nI_le (by omega) (by omega)) c⟩
    exact hK _ (by omega) hlo (fun j a b => by omega)
  | succ w ih =>
    intro v hv hlo
    have hvT : v < T.1 := by omega
    have lv := oT.2.2.2 v hvT
    have k1 : (mm_i M 103 F).1 (84 + 1 + (nI rp).toNatClampNeg) (nI v).toNatClampNeg = nI (T.2.2.1 v) := by
      rw [nI_clamp (n := rp) (by omega), nI_clamp (n := v) (by omega)]
      have e : ¬ 84 + 1 + rp = 103 := by omega
      simp only [mm_i, e, if_false]
      exact (h2.2.2 v hvT).1
    refine am_run hX 6 _ _ _ _ ?_
    conv => whnf
    refine ⟨hin, ?_⟩
    conv => whnf
    rw [h96]
    refine ⟨fun c => absurd c (nI_ge (by omega) (by omega)), fun _ => ?_⟩
    have hI : vp_in (nI v) 150 := vp_in_nI (by omega) (by decide)
    rcases hc with ⟨rfl, rfl⟩ | ⟨rfl, rfl⟩ | ⟨rfl, rfl⟩ | ⟨rfl, rfl⟩ | ⟨rfl, rfl⟩
    all_goals (
      refine am_run hX 10 _ _ _ _ ?_
      conv => whnf
      rw [eR1]
      refine ⟨⟨hin, by decide⟩, ?_⟩
      conv => whnf
      refine ⟨hI, ?_⟩
      conv => whnf
      rw [k1, nI_s8 (by omega)]
      by_cases cx : xs ≤ T.2.2.1 v / 256
      · refine ⟨fun _ => ?_, fun c => absurd (nI_le cx (by omega)) c⟩
        refine hK v (by omega) hlo fun j a b => ?_
        by_cases e : j = v
        · rw [e]; exact cx
        · have := oT.2.2.1 v j (by omega) b
          omega
      · refine ⟨fun c => absurd c (nI_ge (by omega) (by omega)), fun _ => ?_⟩
        refine am_run hX 2 _ _ _ _ ?_
        conv => whnf
        rw [nI_1]
        refine ih (v + 1) (by omega) fun j hj => ?_
        by_cases e : j = v
        · rw [e]; omega
        · exact hlo j (by omega))
set_option maxRecDepth 100000 in
theorem ff_o {Pp : am_Q} {X : am_X} (hX : am_K d false nm_X9_findFirsts Pp X) (hc : (rr = 0 ∧ rp = 0) ∨ (rr = 0 ∧ rp = 1) ∨ (rr = 1 ∧ rp = 0) ∨ (rr = 1 ∧ rp = 1) ∨ (rr = 2 ∧ rp = 2)) (hR : M.1 84 rr = nI rp) (h2 : csS M rp rr T) (oT : orS T) (hP : ∀ F, foP F T.2.2.1 T.1 257 → Pp (.inl none) (mm_i M 103 F)) : ∀ w xs v F, xs + w = 257 → foP F T.2.2.1 T.1 xs → v ≤ T.1 → (∀ j, j < v → T.2.2.1 j / 256 < xs) → X 4 [some (aR 83), some (aI (nI rr)), some (aI (nI v)), some (aI (nI xs))] [] (mm_i M 103 F) := by
  intro w
  induction w with
  | zero =>
    intro xs v F hx hF hv hlo
    have hx : xs = 257 := by omega
    subst hx
    refine am_run hX 4 _ _ _ _ ?_
    conv => whnf
    refine ⟨fun _ => ?_, fun c => absurd (by decide) c⟩
    conv => whnf
    exact ⟨trivial, hP F hF⟩
  | succ w ih =>
    intro xs v F hx hF hv hlo
    refine am_run hX 3 _ _ _ _ ?_
    conv => whnf
    refine ⟨fun c => absurd c (nI_nlt (a := 256) (b := xs) (by omega) (by decide)), fun _ => ?_⟩
    refine ff_i (M := M) (F := F) hX hc hR h2 oT (by omega) (fun u hu l1 l2 => ?_) (T.1 - v) v (by omega) hlo
    have hI : vp_in (nI xs) 257 := vp_in_nI (by omega) (by decide)
    refine am_run hX 7 _ _ _ _ ?_
    conv => whnf
    refine ⟨hI, ?_⟩
    conv => whnf
    rw [nI_clamp (n := xs) (by omega), show (mm_i M 103 F).1 103 = F from rfl, mi_two, nI_1]
    refine ih (xs + 1) u _ (by omega) (fun y hy => ?_) hu (fun j hj => Nat.lt_succ_of_lt (l1 j hj))
    unfold upd
    by_cases e : y = xs
    · rw [if_pos e, e]
      exact ⟨u, hu, rfl, l1, l2⟩
    · rw [if_neg e]
      exact hF y (by omega)
set_option maxRecDepth 100000 in
theorem ct_ff (hc : (rr = 0 ∧ rp = 0) ∨ (rr = 0 ∧ rp = 1) ∨ (rr = 1 ∧ rp = 0) ∨ (rr = 1 ∧ rp = 1) ∨ (rr = 2 ∧ rp = 2)) (hR : M.1 84 rr = nI rp) (h2 : csS M rp rr T) (oT : orS T) : am_M (d + 1) false nm_X9_findFirsts [aR 83, aI (nI rr)] M (fun r M' => r = .inl none ∧ ∃ F, foP F T.2.2.1 T.1 257 ∧ M' = mm_i M 103 F) := by
  refine ⟨rfl, rfl, rfl, fun X hX => am_run hX 4 _ _ _ _ ?_⟩
  conv => whnf
  have key := ff_o (M := M) hX hc hR h2 oT (fun F hF => ⟨rfl, F, hF, rfl⟩) 257 0 0 (M.1 103) (by omega) (fun y hy => absurd hy (Nat.not_lt_zero _)) (Nat.zero_le _) (fun j hj => absurd hj (Nat.not_lt_zero _))
  rw [mi_self] at key
  exact key
end FFS
/-- the class's rows while it multiplies -/
def kF (M : mm_M) (F : Nat → Int32) (gr gi : Nat → Int64) : mm_M := mm_l (mm_l (mm_i M 103 F) 101 gr) 102 gi
section TKG
variable {d n : Nat} {M : mm_M} {F : Nat → Int32} {gr gi : Nat → Int64} {q : Nat → Int32} {f g P Q : Nat → Int64} {κ : Nat → Nat}
theorem kF_r {gr' : Nat → Int64} : mm_l (fF (kF M F gr gi) n q f g) 101 gr' = fF (kF M F gr' gi) n q f g := by
  refine Prod.ext rfl (funext fun k => ?_)
  by_cases h1 : k = 101
  · subst h1; rfl
  · by_cases h2 : k = 102
    · subst h2; rfl
    · simp [fF, kF, mm_i, mm_l, h1, h2]
theorem kF_i {gi' : Nat → Int64} : mm_l (fF (kF M F gr gi) n q f g) 102 gi' = fF (kF M F gr gi') n q f g := by
  refine Prod.ext rfl (funext fun k => ?_)
  by_cases h1 : k = 102
  · subst h1; rfl
  · simp [fF, kF, mm_i, mm_l, h1]
theorem kF_o {k : Nat} (h : k ≠ 103) : (kF M F gr gi).1 k = M.1 k := by
  simp [kF, mm_i, mm_l, h]
set_option maxRecDepth 100000 in
theorem tk_l {Pp : am_Q} {X : am_X} {xs : Nat} (hX : am_K (d + 1) false nm_X9_takeGathered Pp X) (hx : xs < 256) (hP : ∀ n κ q f g gr gi, n ≤ 256 * xs + 256 → fnd P Q (256 * xs + 256) n κ q f g → (∀ z, z < 256 → gr z = 0 ∧ gi z = 0) → Pp (.inl none) (fF (kF M F gr gi) n q f g)) : ∀ w zs n κ q f g gr gi, zs + w = 256 → n ≤ 256 * xs + zs → fnd P Q (256 * xs + zs) n κ q f g → (∀ z, z < zs → gr z = 0 ∧ gi z = 0) → (∀ z, zs ≤ z → z < 256 → gr z = P (256 * xs + z) ∧ gi z = Q (256 * xs + z)) → X 2 [some (aR 83), some (aI (nI xs)), some (aI (nI zs))] [] (fF (kF M F gr gi) n q f g) := by
  intro w
  induction w with
  | zero =>
    intro zs n κ q f g gr gi hz hn hF h0 h1
    have hz : zs = 256 := by omega
    subst hz
    refine am_run hX 4 _ _ _ _ ?_
    conv => whnf
    refine ⟨fun _ => ?_, fun c => absurd (by decide) c⟩
    conv => whnf
    exact ⟨trivial, hP n κ q f g gr gi hn hF h0⟩
  | succ w ih =>
    intro zs n κ q f g gr gi hz hn hF h0 h1
    have hin : vp_in (nI zs) 256 := vp_in_nI (by omega) (by decide)
    obtain ⟨e1, e2⟩ := h1 zs (Nat.le_refl _) (by omega)
    refine am_run hX 3 _ _ _ _ ?_
    conv => whnf
    refine ⟨fun c => absurd c (nI_ge (a := zs) (b := 256) (by omega) (by decide)), fun _ => ?_⟩
    refine am_run hX 15 _ _ _ _ ?_
    conv => whnf
    refine ⟨hin, ?_⟩
    conv => whnf
    refine ⟨hin, ?_⟩
    conv => whnf
    rw [show (256 : Int32) = nI 256 from rfl, nI_mul, nI_add, nI_clamp (n := zs) (by omega), show (fF (kF M F gr gi) n q f g).2 101 zs = gr zs from rfl, show (fF (kF M F gr gi) n q f g).2 102 zs = gi zs from rfl]
    refine am_cq (ct_findR (d := d) (M := kF M F gr gi) (k := 256 * xs + zs) hF (Nat.le_refl _) (fun x a b => by omega) e1 e2 (by omega)) ?_
    rintro r' M' ⟨rfl, n2, κ2, q2, f2, g2, hn2, hF2, rfl⟩
    refine ⟨none, rfl, ?_⟩
    conv => whnf
    refine am_run hX 12 _ _ _ _ ?_
    conv => whnf
    refine ⟨hin, ?_⟩
    conv => whnf
    rw [nI_clamp (n := zs) (by omega), kF_r]
    refine ⟨hin, ?_⟩
    conv => whnf
    rw [kF_i, nI_1]
    refine ih (zs + 1) n2 κ2 q2 f2 g2 _ _ (by omega) (by omega) hF2 (fun z y => ?_) (fun z y1 y2 => ?_)
    · show vp_updL gr zs 0 z = 0 ∧ vp_updL gi zs 0 z = 0
      unfold vp_updL
      by_cases e : z = zs
      · rw [if_pos e, if_pos e]
        exact ⟨rfl, rfl⟩
      · rw [if_neg e, if_neg e]
        exact h0 z (by omega)
    · show vp_updL gr zs 0 z = _ ∧ vp_updL gi zs 0 z = _
      unfold vp_updL
      rw [if_neg (by omega), if_neg (by omega)]
      exact h1 z (by omega) y2
set_option maxRecDepth 100000 in
theorem ct_take {xs : Nat} (hx : xs < 256) (hn : n ≤ 256 * xs) (hF : fnd P Q (256 * xs) n κ q f g) (h1 : ∀ z, z < 256 → gr z = P (256 * xs + z) ∧ gi z = Q (256 * xs + z)) : am_M (d + 2) false nm_X9_takeGathered [aR 83, aI (nI xs)] (fF (kF M F gr gi) n q f g) (fun r M' => r = .inl none ∧ ∃ n κ q f g gr gi, n ≤ 256 * xs + 256 ∧ fnd P Q (256 * xs + 256) n κ q f g ∧ (∀ z, z < 256 → gr z = 0 ∧ gi z = 0) ∧ M' = fF (kF M F gr gi) n q f g) := by
  refine ⟨rfl, rfl, rfl, fun X hX => am_run hX 2 _ _ _ _ ?_⟩
  conv => whnf
  exact tk_l (d := d) (M := M) (F := F) hX hx (fun n κ q f g gr gi a b c => ⟨rfl, n, κ, q, f, g, gr, gi, a, b, c, rfl⟩) 256 0 n κ q f g gr gi (by omega) hn hF (fun z hz => absurd hz (Nat.not_lt_zero _)) (fun z _ hz => h1 z hz)
end TKG
