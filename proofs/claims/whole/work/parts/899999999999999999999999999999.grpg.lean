/-! group: the class finds THE GROUP -/
/-- what finding may change -/
def gcF (M N : mm_M) : Prop := (∀ k, k ≠ 17 → k ≠ 21 → k ≠ 22 → k ≠ 23 → N.1 k = M.1 k) ∧ N.2 = M.2 ∧ ∀ y, y ≠ 10 → N.1 17 y = M.1 17 y
theorem gcF_r (M : mm_M) : gcF M M := ⟨fun _ _ _ _ _ => rfl, rfl, fun _ _ => rfl⟩
theorem gcF_t {M N K : mm_M} (h : gcF M N) (g : gcF N K) : gcF M K := ⟨fun k a b c e => (g.1 k a b c e).trans (h.1 k a b c e), g.2.1.trans h.2.1, fun y a => (g.2.2 y a).trans (h.2.2 y a)⟩
theorem gcF_a {M N : mm_M} (h : afF M N) : gcF M N := ⟨fun k a b _ _ => h.1 k a b, h.2.1, h.2.2⟩
theorem gcF_i {M : mm_M} {k : Nat} {f : Nat → Int32} (h : 21 ≤ k ∧ k ≤ 23) : gcF M (mm_i M k f) := ⟨fun j a b c e => mm_ne _ _ _ _ (by omega), rfl, fun y _ => by rw [mm_ne _ _ _ _ (by omega)]⟩
theorem gcF_f {M : mm_M} {v : Int32} : gcF M (mm_i M 17 (upd (M.1 17) 10 v)) := ⟨fun j a _ _ _ => mm_ne _ _ _ _ a, rfl, fun y hy => by rw [mm_i1]; exact if_neg hy⟩
theorem gcS_f {M N : mm_M} {w : Nat} {ys : Nat → R4} (hf : gcF M N) (h : gcS M w ys) : gcS N w ys := by
  obtain ⟨a, b, c, e⟩ := h
  refine ⟨a, by rw [hf.1 18 (by decide) (by decide) (by decide) (by decide)]; exact b, by rw [hf.2.2 6 (by decide)]; exact c, fun j hj => ⟨(e j hj).1, ?_⟩⟩
  unfold rt_at
  rw [hf.2.1]
  exact (e j hj).2
section GPG
variable {d : Nat} {M : mm_M} {w : Nat} {ys : Nat → R4}
/-- all of THE GROUP whose x's are ahead -/
def ahG (w : Nat) (ys : Nat → R4) (x : Nat) (R : Nat → Nat) (r : Nat) : Prop := ∀ v, fxG w ys v → v % 2 ^ w < x → Spn R r v
theorem v_sp (w v : Nat) : v = v % 2 ^ w + 2 ^ w * (v / 2 ^ w) := (Nat.mod_add_div v (2 ^ w)).symm
theorem v_z {w v : Nat} (h : v < 2 ^ (2 * w)) : v / 2 ^ w < 2 ^ w := by
  rw [Nat.two_mul, Nat.pow_add] at h
  exact Nat.div_lt_of_lt_mul h
/-- one more x -/
theorem ah_s {x : Nat} {R : Nat → Nat} {r : Nat} (h : ahG w ys x R r) (hx : ∀ v, fxG w ys v → v % 2 ^ w = x → Spn R r v) : ahG w ys (x + 1) R r := by
  intro v hv hl
  by_cases q : v % 2 ^ w = x
  · exact hx v hv q
  · exact h v hv (by omega)
/-- an x that is there already, or for which one was added -/
theorem ah_g {x g : Nat} {R : Nat → Nat} {r : Nat} (hn : nzS w ys) (hx : 0 < x) (h : ahG w ys x R r) (hg : fxG w ys g) (hs : Spn R r g) (hgx : g % 2 ^ w = x) : ∀ v, fxG w ys v → v % 2 ^ w = x → Spn R r v := by
  intro v hv hvx
  have h1 := fxG_x hn hv hg
  have h2 : (v ^^^ g) % 2 ^ w < x := by
    rw [Nat.xor_mod_two_pow, hvx, hgx, Nat.xor_self]
    exact hx
  have h3 := Spn_x (h _ h1 h2) hs
  rw [Nat.xor_assoc, Nat.xor_self, Nat.xor_zero] at h3
  exact h3
theorem sg_v {v : Nat} (h : fxG w ys v) : sgV w ys (v % 2 ^ w) (v / 2 ^ w) ≠ -1 := by
  have := (sg_g (ys := ys) (Nat.mod_lt v (Nat.two_pow_pos w)) (v_z h.1)).mpr (by rw [← v_sp]; exact h)
  exact this
set_option maxRecDepth 100000 in
theorem fg_1 {P : am_Q} {X : am_X} (hX : am_K (d + 3) false nm_X4_findGroup P X) (h : gcS M w ys) (hz : nzS w ys) (hK : ∀ N R r l2, gcF M N → gcR N R r → gwI w ys R r → ahG w ys (2 ^ w) R r → X 78 [some (aR 17), some (aI (nI (2 ^ w))), l2] [] N) : ∀ (m x : Nat) (N : mm_M) (R : Nat → Nat) (r : Nat) (l2 : Option am_V), x + m = 2 ^ w → gcF M N → gcR N R r → gwI w ys R r → ahG w ys x R r → X 16 [some (aR 17), some (aI (nI x)), l2] [] N := by
  have w8 := h.1
  have h8 := w256 w8
  have hp := Nat.two_pow_pos w
  intro m
  induction m with
  | zero =>
    intro x N R r l2 hx hF hR hG hA
    obtain rfl : x = 2 ^ w := by omega
    have hN := gcS_f hF h
    refine am_run hX 5 _ _ _ _ ?_
    conv => whnf
    rw [hN.2.1]
    refine ⟨fun _ => ?_, fun c => absurd (nI_le (Nat.le_refl _) (by omega)) c⟩
    exact hK N R r _ hF hR hG hA
  | succ m ih =>
    intro x N R r l2 hx hF hR hG hA
    have hN := gcS_f hF h
    have xl : x < 2 ^ w := by omega
    have r16 := tr_16 hG.1
    have hRl : ∀ j, j < r → R j < 65536 := fun j hj => (hG.1.1 j hj).1
    have hcl : ∀ {R' : Nat → Nat} {r' v : Nat}, gwI w ys R' r' → Spn R' r' v → fxG w ys v := fun hG' hs => sp_cl fxG_0 (fun a b ha hb => fxG_x hz ha hb) hG'.2 hs
    -- the next x
    have hnx : ∀ (N' : mm_M) (R' : Nat → Nat) (r' : Nat) (l2 : Option am_V), gcF M N' → gcR N' R' r' → gwI w ys R' r' → ahG w ys (x + 1) R' r' → X 72 [some (aR 17), some (aI (nI x)), l2] [] N' := by
      intro N' R' r' l2 a b c e
      refine am_run hX 2 _ _ _ _ ?_
      conv => whnf
      rw [nI_1]
      exact ih (x + 1) N' R' r' _ (by omega) a b c e
    -- a new x
    have hnew : ∀ st, st = 49 → X st [some (aR 17), some (aI (nI x)), l2] [] N := by
      rintro st rfl
      refine am_run hX 5 _ _ _ _ ?_
      conv => whnf
      refine ⟨fun c => absurd c (by decide), fun _ => ?_⟩
      refine am_run hX 3 _ _ _ _ ?_
      conv => whnf
      refine am_cq (ct_cmpM (d := d + 1) hN xl) fun r1 N1 hq => ?_
      obtain ⟨f, rfl, ⟨rfl, hq⟩ | ⟨rfl, i, hi, hno⟩⟩ := hq
      · refine ⟨_, rfl, ?_⟩
        refine am_run hX 1 _ _ _ _ ?_
        conv => whnf
        refine ⟨fun c => absurd c (by decide), fun _ => ?_⟩
        refine am_run hX 3 _ _ _ _ ?_
        conv => whnf
        have hF1 : gcF M (mm_i N 23 f) := gcF_t hF (gcF_i (by omega))
        have hR1 : gcR (mm_i N 23 f) R r := hR
        refine am_cq (ct_addFx (d := d) (M := mm_i N 23 f) (gcS_f hF1 h) hz xl (fun i hi => by rw [mm_i1]; exact hq i hi) hR1 hG) fun r2 N2 hq2 => ?_
        obtain ⟨rfl, R', r', g1, g2, g3, g4, g5⟩ := hq2
        refine ⟨none, rfl, ?_⟩
        conv => whnf
        refine hnx N2 R' r' _ (gcF_t hF1 (gcF_a g1)) g2 g3 (ah_s (fun v hv hl => g4 v (hA v hv hl)) ?_)
        rcases Nat.eq_zero_or_pos x with q | q
        · intro v hv hvx
          have := g5.1 q (v / 2 ^ w) (v_z hv.1) (by have := sg_v hv; rw [hvx] at this; exact this)
          rw [← hvx, ← v_sp] at this
          exact this
        · rcases g5.2 (by omega) with ⟨z, z1, z2, z3⟩ | hnone
          · exact ah_g hz q (fun v hv hl => g4 v (hA v hv hl)) ((sg_g xl z1).mp z2) z3 (v_pk xl).1
          · intro v hv hvx
            have := sg_v hv
            rw [hvx] at this
            exact absurd (hnone _ (v_z hv.1)) this
      · refine ⟨_, rfl, ?_⟩
        refine am_run hX 1 _ _ _ _ ?_
        conv => whnf
        refine ⟨fun _ => ?_, fun c => absurd rfl c⟩
        refine hnx _ R r _ (gcF_t hF (gcF_i (by omega))) hR hG (ah_s hA (fun v hv hvx => ?_))
        have := sg_v hv
        rw [hvx] at this
        exact absurd (cm_no hi hno) this
    refine am_run hX 5 _ _ _ _ ?_
    conv => whnf
    rw [hN.2.1]
    refine ⟨fun c => absurd c (nI_ge (by omega) (by omega)), fun _ => ?_⟩
    refine am_run hX 2 _ _ _ _ ?_
    conv => whnf
    rw [show (0 : Int32) = nI 0 from rfl, nI_eq (by omega) (by decide)]
    refine ⟨fun _ => hnew 49 rfl, fun hx0 => ?_⟩
    refine am_run hX 3 _ _ _ _ ?_
    conv => whnf
    refine am_c1 (ct_restG (d := d + 2) r16 (v := x) (by omega) hR hRl) ?_
    refine am_run hX 7 _ _ _ _ ?_
    conv => whnf
    have hrl : rdV R x r < 65536 := rdV_l (by omega) hRl
    have hmk : nI (2 ^ w) - 1 = nI (2 ^ w - 1) := by rw [show (1 : Int32) = nI 1 from rfl, nI_sub (by omega)]
    rw [hN.2.1, hmk, nI_and, Nat.and_two_pow_sub_one_eq_mod, show (0 : Int32) = nI 0 from rfl, nI_eq (by have := Nat.mod_lt (rdV R x r) hp; omega) (by decide)]
    refine ⟨fun c => ?_, fun _ => hnew 49 rfl⟩
    refine am_run hX 4 _ _ _ _ ?_
    conv => whnf
    refine ⟨fun _ => ?_, fun c => absurd rfl c⟩
    refine hnx N R r _ hF hR hG (ah_s hA (ah_g hz (by omega) hA (hcl hG (rd_sp R x r)) (rd_sp R x r) ?_))
    rw [Nat.xor_mod_two_pow, c, Nat.xor_zero, Nat.mod_eq_of_lt xl]
/-- the signs are found -/
def gcG (N : mm_M) (w : Nat) (ys : Nat → R4) : Prop := ∃ R r, gcR N R r ∧ gpR w ys R r ∧ ∀ i, i < r → N.1 22 i = sgV w ys (R i % 2 ^ w) (R i / 2 ^ w)
set_option maxRecDepth 100000 in
theorem fg_2 {P : am_Q} {X : am_X} {R : Nat → Nat} {r : Nat} (hX : am_K (d + 3) false nm_X4_findGroup P X) (h : gcS M w ys) (hz : nzS w ys) (hG : gpR w ys R r) (hK : ∀ N, gcF M N → gcR N R r → (∀ i, i < r → N.1 22 i = sgV w ys (R i % 2 ^ w) (R i / 2 ^ w)) → P (.inl none) N) : ∀ (m i : Nat) (N : mm_M) (l2 : Option am_V), i + m = r → gcF M N → gcR N R r → (∀ j, j < i → N.1 22 j = sgV w ys (R j % 2 ^ w) (R j / 2 ^ w)) → X 84 [some (aR 17), some (aI (nI i)), l2] [] N := by
  have w8 := h.1
  have h8 := w256 w8
  have hp := Nat.two_pow_pos w
  have h16 := pw16g w8
  have r16 := tr_16 (rrf_tri hG.1)
  intro m
  induction m with
  | zero =>
    intro i N l2 hi hF hR hS
    obtain rfl : i = r := by omega
    refine am_run hX 5 _ _ _ _ ?_
    conv => whnf
    rw [hR.1]
    refine ⟨fun _ => ?_, fun c => absurd (nI_le (Nat.le_refl _) (by omega)) c⟩
    conv => whnf
    exact ⟨trivial, hK N hF hR hS⟩
  | succ m ih =>
    intro i N l2 hi hF hR hS
    have il : i < r := by omega
    have hN := gcS_f hF h
    have hg : fxG w ys (R i) := (hG.2 (R i)).mp (Spn_m il)
    have hl : R i < 2 ^ (2 * w) := hg.1
    have hxl := Nat.mod_lt (R i) hp
    have hzl := v_z hl
    have hsg := sg_v hg
    have hmk : nI (2 ^ w) - 1 = nI (2 ^ w - 1) := by rw [show (1 : Int32) = nI 1 from rfl, nI_sub (by omega)]
    have h21 : N.1 21 (nI i).toNatClampNeg = nI (R i) := by
      rw [nI_clamp (by omega)]
      exact hR.2 i il
    refine am_run hX 4 _ _ _ _ ?_
    conv => whnf
    rw [hR.1]
    refine ⟨fun c => absurd c (nI_ge (by omega) (by omega)), fun _ => ?_⟩
    refine am_run hX 17 _ _ _ _ ?_
    conv => whnf
    refine ⟨vp_in_nI (by show i < 16; omega) (by decide), ?_⟩
    conv => whnf
    rw [h21, hN.2.1, hmk, nI_and, Nat.and_two_pow_sub_one_eq_mod]
    refine am_cq (ct_cmpM (d := d + 1) hN hxl) fun r1 N1 hq => ?_
    obtain ⟨f, rfl, ⟨rfl, hq⟩ | ⟨rfl, i', hi', hno⟩⟩ := hq
    · refine ⟨_, rfl, ?_⟩
      refine am_run hX 1 _ _ _ _ ?_
      conv => whnf
      refine ⟨fun c => absurd c (by decide), fun _ => ?_⟩
      have hF1 : gcF M (mm_i N 23 f) := gcF_t hF (gcF_i (by omega))
      refine am_run hX 10 _ _ _ _ ?_
      conv => whnf
      refine ⟨vp_in_nI (by show i < 16; omega) (by decide), ?_⟩
      conv => whnf
      rw [show (mm_i N 23 f).1 21 (nI i).toNatClampNeg = nI (R i) from h21, show (mm_i N 23 f).1 17 6 = nI w from hN.2.2.1, nI_sh (by omega) w (by omega)]
      refine am_c1 (ct_sgnC (d := d + 1) (M := mm_i N 23 f) (gcS_f hF1 h) hz hxl hzl (fun j hj => by rw [mm_i1]; exact hq j hj)) ?_
      have hfin : ∀ v : Int32, v = sgV w ys (R i % 2 ^ w) (R i / 2 ^ w) → ∀ l2, X 147 [some (aR 17), some (aI (nI i)), l2] [aI v, aI (nI i), aR 22] (mm_i N 23 f) := by
        intro v hv l2
        refine am_run hX 3 _ _ _ _ ?_
        conv => whnf
        refine ⟨vp_in_nI (by show i < 16; omega) (by decide), ?_⟩
        conv => whnf
        rw [nI_clamp (n := i) (by omega), nI_1]
        refine ih (i + 1) _ _ (by omega) (gcF_t hF1 (gcF_i (by omega))) ?_ (fun j hj => ?_)
        · exact hR
        · rw [mm_i1]
          by_cases q : j = i
          · subst q
            exact (if_pos rfl).trans hv
          · refine (if_neg q).trans ?_
            exact hS j (by omega)
      refine am_run hX 2 _ _ _ _ ?_
      conv => whnf
      refine ⟨fun c => ?_, fun c => ?_⟩
      · refine am_run hX 1 _ _ _ _ ?_
        conv => whnf
        refine hfin 0 ?_ _
        unfold sgV at c hsg ⊢
        by_cases c0 : fxB w ys (R i % 2 ^ w) (R i / 2 ^ w) 0 = true
        · rw [if_pos c0]
        · rw [if_neg c0] at c hsg
          by_cases c1 : fxB w ys (R i % 2 ^ w) (R i / 2 ^ w) 1 = true
          · rw [if_pos c1] at c
            exact absurd rfl c
          · rw [if_neg c1] at hsg
            exact absurd rfl hsg
      · refine am_run hX 2 _ _ _ _ ?_
        conv => whnf
        exact hfin 1 (Classical.not_not.mp c).symm _
    · exact absurd (cm_no hi' hno) hsg
set_option maxRecDepth 100000 in
theorem ct_findC (h : gcS M w ys) (hz : nzS w ys) (hc : M.1 17 10 = -1 ∨ gcG M w ys) : am_M (d + 4) false nm_X4_findGroup [aR 17] M (fun r N => r = .inl none ∧ gcF M N ∧ gcG N w ys) := by
  have w8 := h.1
  have h8 := w256 w8
  rcases hc with hc | hc
  · refine ⟨rfl, rfl, rfl, fun X hX => am_run hX 4 _ _ _ _ ?_⟩
    conv => whnf
    rw [hc]
    refine ⟨fun _ => ?_, fun c => absurd rfl c⟩
    refine am_run hX 5 _ _ _ _ ?_
    conv => whnf
    refine fg_1 (d := d) (M := M) (w := w) (ys := ys) hX h hz (fun N R r l2 hF hR hG hA => ?_) (2 ^ w) 0 _ (fun _ => 0) 0 _ (by omega) gcF_f ⟨?_, fun i hi => absurd hi (Nat.not_lt_zero _)⟩ ⟨⟨fun i hi => absurd hi (Nat.not_lt_zero _), fun i j _ hi => absurd hi (Nat.not_lt_zero _)⟩, fun i hi => absurd hi (Nat.not_lt_zero _)⟩ (fun v _ hl => absurd hl (Nat.not_lt_zero _))
    · have hN := gcS_f hF h
      refine am_run hX 2 _ _ _ _ ?_
      conv => whnf
      refine am_cq (ct_strG (d := d + 2) (M := N) w8 hN.2.2.1 hR hG.1 (fun i hi => (hG.2 i hi).1)) fun r1 N1 hq => ?_
      obtain ⟨rfl, R', rfl, hrr, hsp⟩ := hq
      refine ⟨none, rfl, ?_⟩
      have hgp : gpR w ys R' r := by
        refine ⟨hrr, fun v => ?_⟩
        rw [hsp v]
        exact ⟨fun hs => sp_cl fxG_0 (fun a b ha hb => fxG_x hz ha hb) hG.2 hs, fun hv => hA v hv (Nat.mod_lt _ (Nat.two_pow_pos w))⟩
      have hF1 : gcF M (rwM N R' r) := gcF_t hF (gcF_i (by omega))
      refine am_run hX 2 _ _ _ _ ?_
      conv => whnf
      refine fg_2 (d := d) (M := M) hX h hz hgp (fun N2 a b c => ⟨rfl, a, R', r, b, hgp, c⟩) r 0 (rwM N R' r) _ (by omega) hF1 ⟨hR.1, fun i hi => rwM_21 hi⟩ (fun j hj => absurd hj (Nat.not_lt_zero _))
    · rw [mm_i1]
      rfl
  · obtain ⟨R, r, hR, hG, hS⟩ := hc
    have r16 := tr_16 (rrf_tri hG.1)
    refine ⟨rfl, rfl, rfl, fun X hX => am_run hX 5 _ _ _ _ ?_⟩
    conv => whnf
    rw [hR.1]
    refine ⟨fun c => absurd c (nI_nm (by omega)), fun _ => ?_⟩
    conv => whnf
    exact ⟨trivial, rfl, gcF_r M, R, r, hR, hG, hS⟩
end GPG
