/-! THE PAIR nodes -/
theorem any_iff {p : Nat → Bool} : ∀ n, anyN p n = true ↔ ∃ i, i < n ∧ p i = true
  | 0 => ⟨fun h => absurd (show false = true from h) (by decide), fun ⟨i, hi, _⟩ => by omega⟩
  | n + 1 => by
    simp only [anyN, Bool.or_eq_true]
    rw [any_iff n]
    constructor
    · rintro (⟨i, hi, h⟩ | h)
      · exact ⟨i, by omega, h⟩
      · exact ⟨n, by omega, h⟩
    · rintro ⟨i, hi, h⟩
      by_cases e : i = n
      · right
        rw [← e]
        exact h
      · exact Or.inl ⟨i, by omega, h⟩
/-- a part that is not 0 -/
def nzP (xs : Nat → R4) (W l t : Nat) : Prop := ∃ j, j < 2 ^ (W - l) ∧ ¬ sub xs l t j = (0, 0, 0, 0)
def alP (xs : Nat → R4) (W l y t : Nat) : Prop := alk (2 ^ (W - l)) (sub xs l y) (sub xs l t)
def newP (xs : Nat → R4) (W l t : Nat) : Prop := nzP xs W l t ∧ ∀ y, y < t → nzP xs W l y → ¬ alP xs W l y t
noncomputable def ncP (P : Nat → Prop) : Nat → Nat
  | 0 => 0
  | n + 1 => ncP P n + @ite Nat (P n) (Classical.propDecidable _) 1 0
theorem nc_t {P : Nat → Prop} {n : Nat} (h : P n) : ncP P (n + 1) = ncP P n + 1 := by
  simp only [ncP]
  rw [if_pos h]
theorem nc_f {P : Nat → Prop} {n : Nat} (h : ¬ P n) : ncP P (n + 1) = ncP P n := by
  simp only [ncP]
  rw [if_neg h, Nat.add_zero]
theorem nc_le (P : Nat → Prop) : ∀ n, ncP P n ≤ n
  | 0 => Nat.le_refl _
  | n + 1 => by
    have := nc_le P n
    by_cases h : P n
    · rw [nc_t h]
      omega
    · rw [nc_f h]
      omega
/-- those that stand for all -/
def reps (xs : Nat → R4) (W l : Nat) (kf : Nat → Int32) (c t : Nat) : Prop := c = ncP (newP xs W l) t ∧ ∃ R : Nat → Nat, (∀ i, i < c → kf i = nI (R i) ∧ R i < t ∧ nzP xs W l (R i)) ∧ ∀ y, y < t → nzP xs W l y → ∃ i, i < c ∧ alP xs W l (R i) y
theorem reps_n {xs : Nat → R4} {W l : Nat} {R : Nat → Nat} {c t : Nat} (hR : (∀ i, i < c → R i < t ∧ nzP xs W l (R i)) ∧ ∀ y, y < t → nzP xs W l y → ∃ i, i < c ∧ alP xs W l (R i) y) (hz : nzP xs W l t) : newP xs W l t ↔ ∀ i, i < c → ¬ alP xs W l (R i) t := by
  constructor
  · intro h i hi
    exact h.2 (R i) (hR.1 i hi).1 (hR.1 i hi).2
  · intro h
    refine ⟨hz, fun y hy hn ha => ?_⟩
    obtain ⟨i, hi, hr⟩ := hR.2 y hy hn
    exact h i hi (alk_t hr ha)
theorem m_and (i l : Nat) : i &&& (2 ^ l - 1) = i % 2 ^ l := Nat.and_two_pow_sub_one_eq_mod i l
section NOD
variable {d : Nat} {M : mm_M} {g : Nat → Int64}
theorem ha_nz {W l t : Nat} {xs : Nat → R4} (hW : W ≤ 8) (hl : l ≤ W) (ht : t < 2 ^ l) : anyN (fun j => decide (nI j &&& nI (2 ^ l - 1) = nI t ∧ ¬ xs j = (0, 0, 0, 0))) (2 ^ W) = true ↔ nzP xs W l t := by
  have h8 := w256 hW
  have hl8 : 2 ^ l ≤ 2 ^ W := Nat.pow_le_pow_right (by decide) hl
  have hp := Nat.two_pow_pos l
  have eW : 2 ^ W = 2 ^ l * 2 ^ (W - l) := by rw [← Nat.pow_add]; congr 1; omega
  rw [any_iff]
  constructor
  · rintro ⟨i, hi, h⟩
    obtain ⟨h1, h2⟩ := of_decide_eq_true h
    have hm : i % 2 ^ l < 2 ^ l := Nat.mod_lt _ hp
    rw [nI_and, m_and, nI_eq (by omega) (by omega)] at h1
    have e : t + 2 ^ l * (i / 2 ^ l) = i := by rw [← h1]; exact Nat.mod_add_div i (2 ^ l)
    refine ⟨i / 2 ^ l, ?_, ?_⟩
    · rw [eW] at hi
      exact Nat.div_lt_of_lt_mul hi
    · show ¬ xs (t + 2 ^ l * (i / 2 ^ l)) = _
      rw [e]
      exact h2
  · rintro ⟨j, hj, h⟩
    have hi := ix_lt hl ht hj
    refine ⟨t + 2 ^ l * j, hi, decide_eq_true ⟨?_, h⟩⟩
    rw [nI_and, m_and, Nat.add_mul_mod_self_left, Nat.mod_eq_of_lt ht]
set_option maxRecDepth 100000 in
theorem nn_l {P : am_Q} {X : am_X} {W l t c : Nat} {xs : Nat → R4} {R : Nat → Nat} (hX : am_K (d + 3) false nm_X4_isNewNode P X) (hS : stC M W xs) (hl : l ≤ W) (ht : t < 2 ^ l) (hc : c ≤ 256) (hR : ∀ i, i < c → M.1 24 i = nI (R i) ∧ R i < 2 ^ l ∧ nzP xs W l (R i)) (hP : ∀ (s : Bool) f, (s = true ↔ ∀ i, i < c → ¬ alP xs W l (R i) t) → P (.inl (some (aI (b01 s)))) (mm_l M 19 f)) : ∀ (m i : Nat), i + m = c → (∀ j, j < i → ¬ alP xs W l (R j) t) → ∀ f, X 3 [some (aR 17), some (aI (nI l)), some (aI (nI t)), some (aI (nI c)), some (aI (nI i))] [] (mm_l M 19 f) := by
  intro m
  induction m with
  | zero =>
    intro i hi h0 f
    have hi : i = c := by omega
    subst hi
    refine am_run hX 6 _ _ _ _ ?_
    conv => whnf
    refine ⟨fun _ => ?_, fun c => absurd (nI_le (by omega) (by omega)) c⟩
    conv => whnf
    exact ⟨rfl, hP true f ⟨fun _ => h0, fun _ => rfl⟩⟩
  | succ m ih =>
    intro i hi h0 f
    have ih := ih (i + 1) (by omega)
    obtain ⟨r1, r2, r3⟩ := hR i (by omega)
    have hS' : stC (mm_l M 19 f) W xs := hS
    refine am_run hX 3 _ _ _ _ ?_
    conv => whnf
    refine ⟨fun c => absurd c (nI_ge (by omega) (by omega)), fun _ => ?_⟩
    refine am_run hX 9 _ _ _ _ ?_
    conv => whnf
    refine ⟨vp_in_nI (by show _ < 256; omega) (by decide), ?_⟩
    conv => whnf
    rw [nI_clamp (n := i) (by omega), show (mm_l M 19 f).1 24 i = nI (R i) from r1]
    refine am_cq (ct_areAlike (d := d) hS' hl r2 ht r3) ?_
    rintro r M' ⟨⟨s, rfl, hs⟩, f', rfl⟩
    refine ⟨_, rfl, ?_⟩
    rw [mm_ll]
    cases s with
    | true =>
      conv => whnf
      refine ⟨fun c => absurd c (by decide), fun _ => ?_⟩
      refine am_run hX 3 _ _ _ _ ?_
      conv => whnf
      exact ⟨rfl, hP false f' ⟨fun q => absurd q (by decide), fun q => absurd (hs.mp rfl) (q i (by omega))⟩⟩
    | false =>
      conv => whnf
      refine ⟨fun _ => ?_, fun c => absurd rfl c⟩
      refine am_run hX 2 _ _ _ _ ?_
      conv => whnf
      rw [nI_1]
      refine ih (fun j hj => ?_) _
      by_cases e : j = i
      · rw [e]
        exact fun q => absurd (hs.mpr q) (by decide)
      · exact h0 j (by omega)
set_option maxRecDepth 100000 in
theorem ct_newNode {W l t c : Nat} {xs : Nat → R4} {R : Nat → Nat} (hS : stC M W xs) (hl : l ≤ W) (ht : t < 2 ^ l) (hc : c ≤ 256) (hR : ∀ i, i < c → M.1 24 i = nI (R i) ∧ R i < 2 ^ l ∧ nzP xs W l (R i)) : am_M (d + 4) false nm_X4_isNewNode [aR 17, aI (nI l), aI (nI t), aI (nI c)] M (fun r M' => (∃ s : Bool, r = .inl (some (aI (b01 s))) ∧ (s = true ↔ ∀ i, i < c → ¬ alP xs W l (R i) t)) ∧ ∃ f, M' = mm_l M 19 f) := by
  refine ⟨rfl, rfl, rfl, fun X hX => am_run hX 2 _ _ _ _ ?_⟩
  conv => whnf
  have key := nn_l (d := d) hX hS hl ht hc hR (fun s f h => ⟨⟨s, rfl, h⟩, f, rfl⟩) c 0 (by omega) (fun j hj => by omega) (M.2 19)
  rw [mm_lz] at key
  exact key
set_option maxRecDepth 100000 in
theorem cn_l {P : am_Q} {X : am_X} {W l : Nat} {xs : Nat → R4} (hX : am_K (d + 4) false nm_X4_countNodes P X) (hS : stC M W xs) (hl : l ≤ W) (hP : ∀ kf f, P (.inl (some (aI (nI (ncP (newP xs W l) (2 ^ l)))))) (mm_l (mm_i M 24 kf) 19 f)) : ∀ (m t : Nat), t + m = 2 ^ l → ∀ kf c f, reps xs W l kf c t → X 4 [some (aR 17), some (aI (nI l)), some (aI (nI c)), some (aI (nI t))] [] (mm_l (mm_i M 24 kf) 19 f) := by
  have hw8 := hS.2.1
  have h8 := w256 hw8
  have hl8 : 2 ^ l ≤ 2 ^ W := Nat.pow_le_pow_right (by decide) hl
  intro m
  induction m with
  | zero =>
    intro t ht kf c f h
    have ht : t = 2 ^ l := by omega
    subst ht
    refine am_run hX 7 _ _ _ _ ?_
    conv => whnf
    rw [sh2 l (by omega)]
    refine ⟨fun _ => ?_, fun c => absurd (nI_le (by omega) (by omega)) c⟩
    conv => whnf
    rw [h.1]
    exact ⟨trivial, hP kf f⟩
  | succ m ih =>
    intro t ht kf c f h
    have ih := ih (t + 1) (by omega)
    have htl : t < 2 ^ l := by omega
    have hp := Nat.two_pow_pos l
    obtain ⟨hc, R, hR1, hR2⟩ := h
    have hcl := nc_le (newP xs W l) t
    have hS' : stC (mm_l (mm_i M 24 kf) 19 f) W xs := hS
    refine am_run hX 5 _ _ _ _ ?_
    conv => whnf
    rw [sh2 l (by omega)]
    refine ⟨fun c => absurd c (nI_ge (by omega) (by omega)), fun _ => ?_⟩
    refine am_run hX 10 _ _ _ _ ?_
    conv => whnf
    rw [sh2 l (by omega), show nI (2 ^ l) - 1 = nI (2 ^ l - 1) from by rw [show (1 : Int32) = nI 1 from rfl, nI_sub (by omega)]]
    refine am_c1 (ct_hasAny (d := d + 2) (xs := xs) h8 hS'.1 (fun j hj => ⟨nrm_bd (by have := hS'.2.2.2 j hj; omega), hS'.2.2.1 j hj⟩)) ?_
    have hnz := ha_nz (xs := xs) hw8 hl htl
    have skip : ¬ newP xs W l t → (∀ y, y < t + 1 → nzP xs W l y → ∃ i, i < c ∧ alP xs W l (R i) y) → ∀ f, X 47 [some (aR 17), some (aI (nI l)), some (aI (nI c)), some (aI (nI t))] [] (mm_l (mm_i M 24 kf) 19 f) := by
      intro hn hy f
      refine am_run hX 2 _ _ _ _ ?_
      conv => whnf
      rw [nI_1]
      exact ih kf c f ⟨by rw [nc_f hn]; exact hc, R, fun i hi => ⟨(hR1 i hi).1, by have := (hR1 i hi).2.1; omega, (hR1 i hi).2.2⟩, hy⟩
    by_cases z : anyN (fun j => decide (nI j &&& nI (2 ^ l - 1) = nI t ∧ ¬ xs j = (0, 0, 0, 0))) (2 ^ W) = true
    · rw [if_pos z]
      have hzt := hnz.mp z
      conv => whnf
      refine ⟨fun c => absurd c (by decide), fun _ => ?_⟩
      refine am_run hX 6 _ _ _ _ ?_
      conv => whnf
      refine am_cq (ct_newNode (d := d) (M := mm_l (mm_i M 24 kf) 19 f) (R := R) hS' hl htl (by omega) (fun i hi => ⟨by show (mm_i M 24 kf).1 24 i = _; rw [mm_i1]; exact (hR1 i hi).1, by have := (hR1 i hi).2.1; omega, (hR1 i hi).2.2⟩)) ?_
      rintro r M' ⟨⟨s, rfl, hs⟩, f', rfl⟩
      refine ⟨_, rfl, ?_⟩
      rw [mm_ll]
      have hnew := reps_n (xs := xs) (W := W) (l := l) (R := R) (c := c) (t := t) ⟨fun i hi => (hR1 i hi).2, hR2⟩ hzt
      cases s with
      | true =>
        have hN := hnew.mpr (hs.mp rfl)
        conv => whnf
        refine ⟨fun c => absurd c (by decide), fun _ => ?_⟩
        refine am_run hX 8 _ _ _ _ ?_
        conv => whnf
        refine ⟨vp_in_nI (by show _ < 256; omega) (by decide), ?_⟩
        conv => whnf
        rw [nI_clamp (n := c) (by omega), nI_1, nI_1]
        rw [show (mm_l (mm_i M 24 kf) 19 f').1 24 = kf from mm_i1 M 24 kf]
        have em : mm_i (mm_l (mm_i M 24 kf) 19 f') 24 (upd kf c (nI t)) = mm_l (mm_i M 24 (upd kf c (nI t))) 19 f' := by
          show mm_l (mm_i (mm_i M 24 kf) 24 (upd kf c (nI t))) 19 f' = _
          rw [mm_ii]
        rw [em]
        refine ih (upd kf c (nI t)) (c + 1) f' ⟨by rw [nc_t hN, hc], fun i => if i = c then t else R i, fun i hi => ?_, fun y hy hn => ?_⟩
        · by_cases e : i = c
          · unfold upd
            simp only [if_pos e]
            exact ⟨trivial, by omega, hzt⟩
          · unfold upd
            simp only [if_neg e]
            have := hR1 i (by omega)
            exact ⟨this.1, by omega, this.2.2⟩
        · by_cases e : y = t
          · refine ⟨c, by omega, ?_⟩
            simp only [if_pos]
            rw [e]
            exact alk_r hzt
          · obtain ⟨i, hi, hr⟩ := hR2 y (by omega) hn
            refine ⟨i, by omega, ?_⟩
            simp only [if_neg (show ¬ i = c by omega)]
            exact hr
      | false =>
        have hN : ¬ newP xs W l t := fun q => absurd (hs.mpr (hnew.mp q)) (by decide)
        conv => whnf
        refine ⟨fun _ => ?_, fun c => absurd rfl c⟩
        refine skip hN (fun y hy hn => ?_) _
        by_cases e : y = t
        · apply Classical.byContradiction
          intro q
          refine absurd (hs.mpr fun i hi ha => q ⟨i, hi, ?_⟩) (by decide)
          rw [e]
          exact ha
        · exact hR2 y (by omega) hn
    · rw [if_neg z]
      have hN : ¬ newP xs W l t := fun q => z (hnz.mpr q.1)
      conv => whnf
      refine ⟨fun _ => ?_, fun c => absurd rfl c⟩
      refine skip hN (fun y hy hn => ?_) _
      by_cases e : y = t
      · rw [e] at hn
        exact absurd (hnz.mpr hn) z
      · exact hR2 y (by omega) hn
set_option maxRecDepth 100000 in
theorem ct_countN {W l : Nat} {xs : Nat → R4} (hS : stC M W xs) (hl : l ≤ W) : am_M (d + 5) false nm_X4_countNodes [aR 17, aI (nI l)] M (fun r M' => r = .inl (some (aI (nI (ncP (newP xs W l) (2 ^ l))))) ∧ ∃ kf f, M' = mm_l (mm_i M 24 kf) 19 f) := by
  refine ⟨rfl, rfl, rfl, fun X hX => am_run hX 4 _ _ _ _ ?_⟩
  conv => whnf
  have key := cn_l (d := d) hX hS hl (fun kf f => ⟨rfl, kf, f, rfl⟩) (2 ^ l) 0 (by omega) (M.1 24) 0 (M.2 19) ⟨rfl, fun _ => 0, fun i hi => by omega, fun y hy => by omega⟩
  rw [mm_iz, mm_lz] at key
  exact key
end NOD
