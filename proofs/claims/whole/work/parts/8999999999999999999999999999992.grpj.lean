/-! group: the reference takes one -/
/-- what taking may change -/
def tkF (M N : mm_M) : Prop := (∀ k, k ≠ 108 → k ≠ 154 → k ≠ 155 → N.1 k = M.1 k) ∧ N.2 = M.2 ∧ ∀ y, y ≠ 77 → N.1 108 y = M.1 108 y
theorem tkF_r (M : mm_M) : tkF M M := ⟨fun _ _ _ _ => rfl, rfl, fun _ _ => rfl⟩
theorem tkF_t {M N K : mm_M} (h : tkF M N) (g : tkF N K) : tkF M K := ⟨fun k a b c => (g.1 k a b c).trans (h.1 k a b c), g.2.1.trans h.2.1, fun y a => (g.2.2 y a).trans (h.2.2 y a)⟩
theorem tkF_i {M : mm_M} {k : Nat} {f : Nat → Int32} (h : k = 154 ∨ k = 155) : tkF M (mm_i M k f) := ⟨fun j a b c => mm_ne _ _ _ _ (by omega), rfl, fun y _ => by rw [mm_ne _ _ _ _ (by omega)]⟩
theorem tkF_f {M : mm_M} {v : Int32} : tkF M (mm_i M 108 (upd (M.1 108) 77 v)) := ⟨fun j a _ _ => mm_ne _ _ _ _ a, rfl, fun y hy => by rw [mm_i1]; exact if_neg hy⟩
/-- a row at the reference -/
def rwz (N : mm_M) (w i v : Nat) : Prop := N.1 154 i = nI (v % 2 ^ w) ∧ N.1 155 i = nI (v / 2 ^ w)
def grRr (N : mm_M) (w : Nat) (R : Nat → Nat) (r : Nat) : Prop := N.1 108 77 = nI r ∧ ∀ i, i < r → rwz N w i (R i)
theorem rwz_w {N : mm_M} {w i j v u : Nat} (h : j ≠ i → rwz N w j u) (hu : j = i → u = v) : rwz (mm_i (mm_i N 154 (upd (N.1 154) i (nI (v % 2 ^ w)))) 155 (upd ((mm_i N 154 (upd (N.1 154) i (nI (v % 2 ^ w)))).1 155) i (nI (v / 2 ^ w)))) w j u := by
  unfold rwz
  rw [mm_ne _ _ _ _ (by decide : (154 : Nat) ≠ 155), mm_i1, mm_i1, mm_ne _ _ _ _ (by decide : (155 : Nat) ≠ 154)]
  by_cases q : j = i
  · rw [hu q, q]
    exact ⟨if_pos rfl, if_pos rfl⟩
  · have := h q
    exact ⟨(if_neg q).trans this.1, (if_neg q).trans this.2⟩
section GPJ
variable {d : Nat} {M : mm_M} {w : Nat}
set_option maxRecDepth 100000 in
theorem tk_1 {P : am_Q} {X : am_X} {R : Nat → Nat} {r v : Nat} {v1 v2 : Int32} {l6 l7 : Option am_V} (hX : am_K (d + 1) false nm_X12_take P X) (w8 : w ≤ 8) (h71 : M.1 108 71 = nI w) (hR : grRr M w R r) (hT : tri R r) (hl : ∀ i, i < r → R i < 2 ^ (2 * w)) (hv : v < 2 ^ (2 * w)) (hK : ∀ l5, X 82 [some (aR 108), some (aI v1), some (aI v2), some (aI (nI (rdV R v r % 2 ^ w))), some (aI (nI (rdV R v r / 2 ^ w))), l5, l6, l7] [] M) : ∀ (m i : Nat), i + m = r → X 8 [some (aR 108), some (aI v1), some (aI v2), some (aI (nI (rdV R v i % 2 ^ w))), some (aI (nI (rdV R v i / 2 ^ w))), some (aI (nI i)), l6, l7] [] M := by
  have h8 := w256 w8
  have hp := Nat.two_pow_pos w
  have r16 := tr_16 hT
  intro m
  induction m with
  | zero =>
    intro i hi
    obtain rfl : i = r := by omega
    refine am_run hX 4 _ _ _ _ ?_
    conv => whnf
    rw [hR.1]
    refine ⟨fun _ => hK _, fun c => absurd (nI_le (Nat.le_refl _) (by omega)) c⟩
  | succ m ih =>
    intro i hi
    have ih := ih (i + 1) (by omega)
    have il : i < r := by omega
    obtain ⟨c1, c2⟩ := hR.2 i il
    have hRi := hl i il
    have hR0 := (hT.1 i il).2
    have hfp : fpV w (R i % 2 ^ w + 2 ^ w * (R i / 2 ^ w)) = rdP (R i) := by
      rw [← v_sp]
      exact if_neg hR0
    have hu : rdV R v i < 2 ^ (2 * w) := rd_lt hl hv i (by omega)
    have e154 : M.1 154 (nI i).toNatClampNeg = nI (R i % 2 ^ w) := by
      rw [nI_clamp (by omega)]
      exact c1
    have e155 : M.1 155 (nI i).toNatClampNeg = nI (R i / 2 ^ w) := by
      rw [nI_clamp (by omega)]
      exact c2
    refine am_run hX 4 _ _ _ _ ?_
    conv => whnf
    rw [hR.1]
    refine ⟨fun c => absurd c (nI_ge (by omega) (by omega)), fun _ => ?_⟩
    refine am_run hX 13 _ _ _ _ ?_
    conv => whnf
    refine ⟨vp_in_nI (by show i < 16; omega) (by decide), ?_⟩
    conv => whnf
    refine ⟨vp_in_nI (by show i < 16; omega) (by decide), ?_⟩
    conv => whnf
    rw [e154, e155, h71]
    refine am_c1 (ct_firstV (d := d) w8 (Nat.mod_lt _ hp) (v_z hRi)) ?_
    rw [hfp]
    refine am_run hX 3 _ _ _ _ ?_
    conv => whnf
    rw [h71]
    refine am_c1 (ct_hasV (d := d) w8 (Nat.mod_lt _ hp) (v_z hu) (fp_l w8 hRi hR0)) ?_
    rw [← v_sp]
    by_cases c : (rdV R v i).testBit (rdP (R i)) = true
    · rw [if_pos c]
      have e : rdV R v (i + 1) = rdV R v i ^^^ R i := by
        show rdV R v i ^^^ (if (rdV R v i).testBit (rdP (R i)) = true then R i else 0) = _
        rw [if_pos c]
      rw [e, Nat.xor_mod_two_pow, Nat.xor_div_two_pow] at ih
      refine am_run hX 1 _ _ _ _ ?_
      conv => whnf
      refine ⟨fun _ => ?_, fun q => absurd (by decide) q⟩
      refine am_run hX 16 _ _ _ _ ?_
      conv => whnf
      refine ⟨vp_in_nI (by show i < 16; omega) (by decide), ?_⟩
      conv => whnf
      refine ⟨vp_in_nI (by show i < 16; omega) (by decide), ?_⟩
      conv => whnf
      rw [e154, e155, nI_xor, nI_xor, nI_1]
      exact ih
    · rw [if_neg c]
      have e : rdV R v (i + 1) = rdV R v i := by
        show rdV R v i ^^^ (if (rdV R v i).testBit (rdP (R i)) = true then R i else 0) = _
        rw [if_neg c, Nat.xor_zero]
      rw [e] at ih
      refine am_run hX 1 _ _ _ _ ?_
      conv => whnf
      refine ⟨fun q => absurd rfl q, fun _ => ?_⟩
      refine am_run hX 3 _ _ _ _ ?_
      conv => whnf
      rw [nI_1]
      exact ih
/-- rows shifted up from a on -/
def shI (N : mm_M) (w : Nat) (R : Nat → Nat) (r a : Nat) : Prop := N.1 108 77 = nI r ∧ (∀ i, i < a → rwz N w i (R i)) ∧ ∀ i, a < i → i ≤ r → rwz N w i (R (i - 1))
set_option maxRecDepth 100000 in
theorem tk_2 {P : am_Q} {X : am_X} {R : Nat → Nat} {r p : Nat} {v1 v2 v3 v4 : Int32} {l7 : Option am_V} (hX : am_K (d + 1) false nm_X12_take P X) (w8 : w ≤ 8) (h71 : M.1 108 71 = nI w) (hT : rrf R r) (hl : ∀ i, i < r → R i < 2 ^ (2 * w)) (r15 : r + 1 ≤ 16) (hp : p < 16) (hne : ∀ i, i < r → rdP (R i) ≠ p) (hK : ∀ N a, a ≤ r → tkF M N → shI N w R r a → (∀ i, i < a → rdP (R i) < p) → (∀ i, a ≤ i → i < r → p < rdP (R i)) → X 185 [some (aR 108), some (aI v1), some (aI v2), some (aI v3), some (aI v4), some (aI (nI p)), some (aI (nI a)), l7] [] N) : ∀ (a : Nat) (N : mm_M), a ≤ r → tkF M N → shI N w R r a → (∀ i, a ≤ i → i < r → p < rdP (R i)) → X 112 [some (aR 108), some (aI v1), some (aI v2), some (aI v3), some (aI v4), some (aI (nI p)), some (aI (nI a)), l7] [] N := by
  have h8 := w256 w8
  have hp2 := Nat.two_pow_pos w
  intro a
  induction a with
  | zero =>
    intro N har hF hI hgt
    refine am_run hX 2 _ _ _ _ ?_
    conv => whnf
    refine ⟨fun _ => hK N 0 har hF hI (fun i hi => absurd hi (Nat.not_lt_zero _)) hgt, fun c => absurd (by decide) c⟩
  | succ a ih =>
    intro N har hF hI hgt
    have ih := fun N' => ih N' (by omega)
    obtain ⟨i1, i2, i3⟩ := hI
    have hN71 : N.1 108 71 = nI w := by rw [hF.2.2 71 (by decide)]; exact h71
    obtain ⟨c1, c2⟩ := i2 a (by omega)
    have hRa := hl a (by omega)
    have hR0 := (hT.1 a (by omega)).2
    have hR6 := (hT.1 a (by omega)).1
    have hpa := (rdP_t hR6 hR0).2.1
    have hfp : fpV w (R a % 2 ^ w + 2 ^ w * (R a / 2 ^ w)) = rdP (R a) := by
      rw [← v_sp]
      exact if_neg hR0
    have ea : nI (a + 1) - 1 = nI a := by rw [show (1 : Int32) = nI 1 from rfl, nI_sub (by omega), Nat.add_sub_cancel]
    have e154 : N.1 154 (nI a).toNatClampNeg = nI (R a % 2 ^ w) := by
      rw [nI_clamp (by omega)]
      exact c1
    have e155 : N.1 155 (nI a).toNatClampNeg = nI (R a / 2 ^ w) := by
      rw [nI_clamp (by omega)]
      exact c2
    refine am_run hX 2 _ _ _ _ ?_
    conv => whnf
    refine ⟨fun c => absurd c (nI_ge (a := 0) (b := a + 1) (by omega) (by omega)), fun _ => ?_⟩
    refine am_run hX 15 _ _ _ _ ?_
    conv => whnf
    rw [ea]
    refine ⟨vp_in_nI (by show a < 16; omega) (by decide), ?_⟩
    conv => whnf
    rw [ea]
    refine ⟨vp_in_nI (by show a < 16; omega) (by decide), ?_⟩
    conv => whnf
    rw [e154, e155, hN71]
    refine am_c1 (ct_firstV (d := d) w8 (Nat.mod_lt _ hp2) (v_z hRa)) ?_
    rw [hfp]
    refine am_run hX 2 _ _ _ _ ?_
    conv => whnf
    refine ⟨fun c => ?_, fun c => ?_⟩
    · have hle : rdP (R a) < p := by
        have h1 : rdP (R a) ≤ p := by
          apply Classical.byContradiction
          intro y
          exact absurd c (nI_ge (by omega) (by omega))
        have h2 := hne a (by omega)
        omega
      refine hK N (a + 1) har hF ⟨i1, i2, i3⟩ (fun i hi => ?_) hgt
      by_cases q : i = a
      · subst q
        exact hle
      · have := hT.2.1 i a (by omega) (by omega)
        omega
    · have hgt2 : p < rdP (R a) := by
        apply Classical.byContradiction
        intro y
        exact c (nI_le (by omega) (by omega))
      refine am_run hX 22 _ _ _ _ ?_
      conv => whnf
      rw [ea]
      refine ⟨vp_in_nI (by show a < 16; omega) (by decide), ?_⟩
      conv => whnf
      refine ⟨vp_in_nI (by show a + 1 < 16; omega) (by decide), ?_⟩
      conv => whnf
      rw [ea]
      refine ⟨vp_in_nI (by show a < 16; omega) (by decide), ?_⟩
      conv => whnf
      refine ⟨vp_in_nI (by show a + 1 < 16; omega) (by decide), ?_⟩
      conv => whnf
      rw [nI_clamp (n := a + 1) (by omega), e154, mm_ne _ 154 155 _ (by decide), e155, nI_d1]
      have key := ih (mm_i (mm_i N 154 (upd (N.1 154) (a + 1) (nI (R a % 2 ^ w)))) 155 (upd ((mm_i N 154 (upd (N.1 154) (a + 1) (nI (R a % 2 ^ w)))).1 155) (a + 1) (nI (R a / 2 ^ w)))) (tkF_t hF (tkF_t (tkF_i (by omega)) (tkF_i (by omega)))) ⟨i1, fun i hi => rwz_w (fun _ => i2 i (by omega)) (fun q => by omega), fun i hi hir => rwz_w (fun q => i3 i (by omega) hir) (fun q => by rw [q]; rfl)⟩ (fun i hi hir => ?_)
      · rw [mm_ne _ 154 155 _ (by decide)] at key
        exact key
      · by_cases q : i = a
        · subst q
          exact hgt2
        · exact hgt i (by omega) hir
set_option maxRecDepth 100000 in
theorem tk_3 {P : am_Q} {X : am_X} {S : Nat → Nat} {n p a v : Nat} {v1 v2 : Int32} (hX : am_K (d + 1) false nm_X12_take P X) (w8 : w ≤ 8) (h71 : M.1 108 71 = nI w) (n16 : n ≤ 16) (ha : a < n) (hp : p < 2 * w) (hS : ∀ i, i < n → S i < 2 ^ (2 * w)) (hv : S a = v) (hK : ∀ N, tkF M N → N.1 108 77 = nI n → (∀ i, i < n → rwz N w i (elR S p a i)) → P (.inl none) N) : ∀ (m i : Nat) (N : mm_M), i + m = n → tkF M N → N.1 108 77 = nI n → (∀ j, j < n → rwz N w j (elN S p a i j)) → X 215 [some (aR 108), some (aI v1), some (aI v2), some (aI (nI (v % 2 ^ w))), some (aI (nI (v / 2 ^ w))), some (aI (nI p)), some (aI (nI a)), some (aI (nI i))] [] N := by
  have h8 := w256 w8
  have hp2 := Nat.two_pow_pos w
  intro m
  induction m with
  | zero =>
    intro i N hi hF h77 hI
    obtain rfl : i = n := by omega
    refine am_run hX 5 _ _ _ _ ?_
    conv => whnf
    rw [h77]
    refine ⟨fun _ => ?_, fun c => absurd (nI_le (Nat.le_refl _) (by omega)) c⟩
    conv => whnf
    refine ⟨trivial, hK N hF h77 (fun j hj => ?_)⟩
    have := hI j hj
    rw [show elN S p a i j = elR S p a j from if_pos hj] at this
    exact this
  | succ m ih =>
    intro i N hi hF h77 hI
    have il : i < n := by omega
    have hN71 : N.1 108 71 = nI w := by rw [hF.2.2 71 (by decide)]; exact h71
    have hSi := hS i il
    obtain ⟨c1, c2⟩ := hI i il
    rw [show elN S p a i i = S i from if_neg (Nat.lt_irrefl _)] at c1 c2
    have e154 : N.1 154 (nI i).toNatClampNeg = nI (S i % 2 ^ w) := by
      rw [nI_clamp (by omega)]
      exact c1
    have e155 : N.1 155 (nI i).toNatClampNeg = nI (S i / 2 ^ w) := by
      rw [nI_clamp (by omega)]
      exact c2
    have hskip : elR S p a i = S i → X 283 [some (aR 108), some (aI v1), some (aI v2), some (aI (nI (v % 2 ^ w))), some (aI (nI (v / 2 ^ w))), some (aI (nI p)), some (aI (nI a)), some (aI (nI i))] [] N := by
      intro e
      refine am_run hX 2 _ _ _ _ ?_
      conv => whnf
      rw [nI_1]
      refine ih (i + 1) N (by omega) hF h77 (fun j hj => ?_)
      have := hI j hj
      unfold elN at this ⊢
      by_cases q : j = i
      · subst q
        rw [if_pos (by omega), e]
        rw [if_neg (Nat.lt_irrefl _)] at this
        exact this
      · by_cases y : j < i
        · rw [if_pos y] at this
          rw [if_pos (by omega)]
          exact this
        · rw [if_neg y] at this
          rw [if_neg (by omega)]
          exact this
    refine am_run hX 4 _ _ _ _ ?_
    conv => whnf
    rw [h77]
    refine ⟨fun c => absurd c (nI_ge (by omega) (by omega)), fun _ => ?_⟩
    refine am_run hX 3 _ _ _ _ ?_
    conv => whnf
    rw [nI_eq (by omega) (by omega)]
    refine ⟨fun q => hskip (if_neg (fun y => y.1 q)), fun q => ?_⟩
    refine am_run hX 12 _ _ _ _ ?_
    conv => whnf
    refine ⟨vp_in_nI (by show i < 16; omega) (by decide), ?_⟩
    conv => whnf
    refine ⟨vp_in_nI (by show i < 16; omega) (by decide), ?_⟩
    conv => whnf
    rw [e154, e155, hN71]
    refine am_c1 (ct_hasV (d := d) w8 (Nat.mod_lt _ hp2) (v_z hSi) hp) ?_
    rw [← v_sp]
    by_cases c : (S i).testBit p = true
    · rw [if_pos c]
      have e : elR S p a i = S i ^^^ v := by
        rw [← hv]
        exact if_pos ⟨q, c⟩
      refine am_run hX 1 _ _ _ _ ?_
      conv => whnf
      refine ⟨fun _ => ?_, fun y => absurd (by decide) y⟩
      refine am_run hX 18 _ _ _ _ ?_
      conv => whnf
      refine ⟨vp_in_nI (by show i < 16; omega) (by decide), ?_⟩
      conv => whnf
      refine ⟨vp_in_nI (by show i < 16; omega) (by decide), ?_⟩
      conv => whnf
      refine ⟨vp_in_nI (by show i < 16; omega) (by decide), ?_⟩
      conv => whnf
      refine ⟨vp_in_nI (by show i < 16; omega) (by decide), ?_⟩
      conv => whnf
      rw [mm_ne _ 154 155 _ (by decide), e154, e155, nI_clamp (n := i) (by omega), nI_xor, nI_xor, nI_1, ← Nat.xor_mod_two_pow, ← Nat.xor_div_two_pow]
      have key := ih (i + 1) (mm_i (mm_i N 154 (upd (N.1 154) i (nI ((S i ^^^ v) % 2 ^ w)))) 155 (upd ((mm_i N 154 (upd (N.1 154) i (nI ((S i ^^^ v) % 2 ^ w)))).1 155) i (nI ((S i ^^^ v) / 2 ^ w)))) (by omega) (tkF_t hF (tkF_t (tkF_i (by omega)) (tkF_i (by omega)))) h77 (fun j hj => rwz_w (fun y => ?_) (fun y => ?_))
      · rw [mm_ne _ 154 155 _ (by decide)] at key
        exact key
      · have := hI j hj
        unfold elN at this ⊢
        by_cases t : j < i
        · rw [if_pos t] at this
          rw [if_pos (by omega)]
          exact this
        · rw [if_neg t] at this
          rw [if_neg (by omega)]
          exact this
      · rw [y, show elN S p a (i + 1) i = elR S p a i from if_pos (by omega), e]
    · rw [if_neg c]
      refine am_run hX 1 _ _ _ _ ?_
      conv => whnf
      refine ⟨fun y => absurd rfl y, fun _ => ?_⟩
      refine am_run hX 1 _ _ _ _ ?_
      conv => whnf
      exact hskip (if_neg (fun y => c y.2))
set_option maxRecDepth 100000 in
theorem ct_takeR {ys : Nat → R4} {R : Nat → Nat} {r v : Nat} (hn : nzS w ys) (w8 : w ≤ 8) (h71 : M.1 108 71 = nI w) (hR : grRr M w R r) (hT : rrf R r) (hG : ∀ i, i < r → fxG w ys (R i)) (hv : fxG w ys v) : am_M (d + 2) false nm_X12_take [aR 108, aI (nI (v % 2 ^ w)), aI (nI (v / 2 ^ w))] M (fun r1 N => r1 = .inl none ∧ tkF M N ∧ ∃ R' r', grRr N w R' r' ∧ rrf R' r' ∧ (∀ i, i < r' → fxG w ys (R' i)) ∧ Spn R' r' v ∧ ∀ u, Spn R r u → Spn R' r' u) := by
  have h8 := w256 w8
  have hp2 := Nat.two_pow_pos w
  have h16 := pw16g w8
  have hl : ∀ i, i < r → R i < 2 ^ (2 * w) := fun i hi => (hG i hi).1
  have htri := rrf_tri hT
  have hv6 : v < 65536 := Nat.lt_of_lt_of_le hv.1 h16
  have hu : rdV R v r < 2 ^ (2 * w) := rd_lt hl hv.1 r (Nat.le_refl _)
  have hu6 : rdV R v r < 65536 := Nat.lt_of_lt_of_le hu h16
  refine ⟨rfl, rfl, rfl, fun X hX => am_run hX 6 _ _ _ _ ?_⟩
  conv => whnf
  refine tk_1 (d := d) (M := M) hX w8 h71 hR htri hl hv.1 (fun l5 => ?_) r 0 (by omega)
  refine am_run hX 5 _ _ _ _ ?_
  conv => whnf
  rw [h71]
  refine am_c1 (ct_firstV (d := d) w8 (Nat.mod_lt _ hp2) (v_z hu)) ?_
  rw [← v_sp]
  refine am_run hX 7 _ _ _ _ ?_
  conv => whnf
  rw [h71, show (2 : Int32) = nI 2 from rfl, nI_mul]
  by_cases h0 : rdV R v r = 0
  · have e : fpV w (rdV R v r) = 2 * w := if_pos h0
    rw [e]
    refine ⟨fun c => absurd rfl c, fun _ => ?_⟩
    refine am_run hX 1 _ _ _ _ ?_
    conv => whnf
    exact ⟨trivial, rfl, tkF_r M, R, r, hR, hT, hG, (tr_z htri hv6).mp h0, fun u hu => hu⟩
  · have e : fpV w (rdV R v r) = rdP (rdV R v r) := if_neg h0
    have hpl := fp_l w8 hu h0
    obtain ⟨t1, t2, t3⟩ := rdP_t hu6 h0
    have hz : ∀ j, j < r → (rdV R v r).testBit (rdP (R j)) = false := tr_c htri r (Nat.le_refl _) v hv6
    have hne : ∀ i, i < r → rdP (R i) ≠ rdP (rdV R v r) := fun i hi q => by
      have := hz i hi
      rw [q, t1] at this
      cases this
    have r16 := tr_16 (tr_add htri hv6 h0)
    have hgu : fxG w ys (rdV R v r) := by
      have h1 : fxG w ys (v ^^^ rdV R v r) := sp_cl fxG_0 (fun a b ha hb => fxG_x hn ha hb) hG (rd_sp R v r)
      have h2 := fxG_x hn hv h1
      rw [← Nat.xor_assoc, Nat.xor_self, Nat.zero_xor] at h2
      exact h2
    rw [e]
    refine ⟨fun _ => ?_, fun c => absurd (fun q => by have := (nI_eq (by omega) (by omega)).mp q; omega) c⟩
    refine am_run hX 3 _ _ _ _ ?_
    conv => whnf
    rw [hR.1]
    refine tk_2 (d := d) (M := M) (R := R) (r := r) (p := rdP (rdV R v r)) hX w8 h71 hT hl r16 t2 hne (fun N a ha hF hI ha1 ha2 => ?_) r M (Nat.le_refl _) (tkF_r M) ⟨hR.1, hR.2, fun i a b => by omega⟩ (fun i a b => by omega)
    obtain ⟨i1, i2, i3⟩ := hI
    have hN71 : N.1 108 71 = nI w := by rw [hF.2.2 71 (by decide)]; exact h71
    obtain ⟨q1, q2⟩ := in_rr hT hl w8 hu h0 hz ha ha1 ha2
    have q3 := in_G (G := fxG w ys) (p := rdP (rdV R v r)) (fun a b ha hb => fxG_x hn ha hb) ha hG hgu
    obtain ⟨q4, q5⟩ := in_sp (R := R) (v := rdV R v r) (p := rdP (rdV R v r)) ha
    have hS : ∀ i, i < r + 1 → inN R a (rdV R v r) i < 2 ^ (2 * w) := by
      intro i hi
      unfold inN
      by_cases c1 : i < a
      · rw [if_pos c1]
        exact hl i (by omega)
      · rw [if_neg c1]
        by_cases c2 : i = a
        · rw [if_pos c2]
          exact hu
        · rw [if_neg c2]
          exact hl (i - 1) (by omega)
    have s0 : inN R a (rdV R v r) a = rdV R v r := by
      unfold inN
      rw [if_neg (Nat.lt_irrefl _), if_pos rfl]
    refine am_run hX 18 _ _ _ _ ?_
    conv => whnf
    refine ⟨vp_in_nI (by show a < 16; omega) (by decide), ?_⟩
    conv => whnf
    refine ⟨vp_in_nI (by show a < 16; omega) (by decide), ?_⟩
    conv => whnf
    rw [nI_clamp (n := a) (by omega)]
    generalize hN1 : mm_i (mm_i N 154 (upd (N.1 154) a (nI (rdV R v r % 2 ^ w)))) 155 (upd ((mm_i N 154 (upd (N.1 154) a (nI (rdV R v r % 2 ^ w)))).1 155) a (nI (rdV R v r / 2 ^ w))) = N1
    have f1 : tkF N N1 := by
      rw [← hN1]
      exact tkF_t (tkF_i (by omega)) (tkF_i (by omega))
    have w1 : ∀ j, j < r + 1 → rwz N1 w j (inN R a (rdV R v r) j) := by
      intro j hj
      rw [← hN1]
      refine rwz_w (fun q => ?_) (fun q => by rw [q]; exact s0)
      unfold inN
      by_cases c1 : j < a
      · rw [if_pos c1]
        exact i2 j c1
      · rw [if_neg c1, if_neg q]
        exact i3 j (by omega) (by omega)
    have e77 : N1.1 108 77 = nI r := by
      rw [← hN1]
      exact i1
    rw [e77, nI_1]
    refine tk_3 (d := d) (M := M) (S := inN R a (rdV R v r)) (n := r + 1) (p := rdP (rdV R v r)) hX w8 h71 r16 (by omega) hpl hS s0 (fun N2 hF2 h77 hI2 => ⟨rfl, hF2, _, r + 1, ⟨h77, hI2⟩, q1, q3, ?_, q4⟩) (r + 1) 0 _ (by omega) (tkF_t hF (tkF_t f1 tkF_f)) ?_ (fun j hj => ?_)
    · have := Spn_x (q4 _ (rd_sp R v r)) q5
      rw [Nat.xor_assoc, Nat.xor_self, Nat.xor_zero] at this
      exact this
    · rw [mm_i1]
      rfl
    · rw [show elN (inN R a (rdV R v r)) (rdP (rdV R v r)) a 0 j = inN R a (rdV R v r) j from if_neg (Nat.not_lt_zero _)]
      exact w1 j hj
end GPJ
