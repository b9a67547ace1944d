/-! group: the class adds rows -/
theorem cm_fx {w x z s i : Nat} {ys : Nat → R4} (hf : fxB w ys x z s = true) (hi : i < 2 ^ w) : cmO ys x i := by
  have h := fx_iff.mp hf i hi
  have h2 : ys i = t8n (2 * ((ex_e x z i / 2 + 2 * s) % 4)) (ys (i ^^^ x)) := by
    rw [← h]
    refine t8_mod _ ?_
    unfold ex_e
    omega
  refine ⟨⟨fun h0 => ?_, fun h0 => ?_⟩, fun _ => ?_⟩
  · have : t8n (8 - (ex_e x z i + 4 * s) % 8) (t8n (ex_e x z i + 4 * s) (ys (i ^^^ x))) = (0, 0, 0, 0) := by rw [h, h0, t8_zz]
    rw [← t8n_a, t8_mod _ (m := 0) (by omega)] at this
    exact this
  · rw [← h, h0, t8_zz]
  · apply Classical.byContradiction
    intro c
    exact quV_n c (t := (ex_e x z i / 2 + 2 * s) % 4) (Nat.mod_lt _ (by decide)) h2
theorem cm_no {w x z i : Nat} {ys : Nat → R4} (hi : i < 2 ^ w) (h : ¬ cmO ys x i) : sgV w ys x z = -1 := by
  unfold sgV
  rw [if_neg (fun q => h (cm_fx q hi)), if_neg (fun q => h (cm_fx q hi))]
theorem v_pk {w x z : Nat} (hx : x < 2 ^ w) : (x + 2 ^ w * z) % 2 ^ w = x ∧ (x + 2 ^ w * z) / 2 ^ w = z :=
  ⟨by rw [Nat.add_mul_mod_self_left, Nat.mod_eq_of_lt hx], by rw [Nat.add_mul_div_left _ _ (Nat.two_pow_pos w), Nat.div_eq_of_lt hx, Nat.zero_add]⟩
theorem v_lt {w x z : Nat} (hx : x < 2 ^ w) (hz : z < 2 ^ w) : x + 2 ^ w * z < 2 ^ (2 * w) := by
  have : 2 ^ w * (z + 1) ≤ 2 ^ w * 2 ^ w := Nat.mul_le_mul_left _ hz
  rw [Nat.two_mul, Nat.pow_add]
  rw [Nat.mul_add, Nat.mul_one] at this
  omega
theorem pw16g {w : Nat} (h : w ≤ 8) : 2 ^ (2 * w) ≤ 65536 := Nat.pow_le_pow_right (n := 2) (j := 16) (by decide) (by omega)
/-- what adding may change -/
def afF (M N : mm_M) : Prop := (∀ k, k ≠ 17 → k ≠ 21 → N.1 k = M.1 k) ∧ N.2 = M.2 ∧ ∀ y, y ≠ 10 → N.1 17 y = M.1 17 y
theorem afF_r (M : mm_M) : afF M M := ⟨fun _ _ _ => rfl, rfl, fun _ _ => rfl⟩
theorem afF_t {M N K : mm_M} (h : afF M N) (g : afF N K) : afF M K := ⟨fun k a b => (g.1 k a b).trans (h.1 k a b), g.2.1.trans h.2.1, fun y a => (g.2.2 y a).trans (h.2.2 y a)⟩
theorem gcS_a {M N : mm_M} {w : Nat} {ys : Nat → R4} (hf : afF M N) (h : gcS M w ys) : gcS N w ys := by
  obtain ⟨a, b, c, e⟩ := h
  refine ⟨a, by rw [hf.1 18 (by decide) (by decide)]; exact b, by rw [hf.2.2 6 (by decide)]; exact c, fun j hj => ⟨(e j hj).1, ?_⟩⟩
  unfold rt_at
  rw [hf.2.1]
  exact (e j hj).2
/-- rows of THE GROUP, one behind another -/
def gwI (w : Nat) (ys : Nat → R4) (R : Nat → Nat) (r : Nat) : Prop := tri R r ∧ ∀ i, i < r → fxG w ys (R i)
section GPE
variable {d : Nat} {M : mm_M} {w x : Nat} {ys : Nat → R4}
theorem gw_add {R : Nat → Nat} {r v : Nat} (hn : nzS w ys) (w8 : w ≤ 8) (h : gwI w ys R r) (hv : fxG w ys v) (h0 : rdV R v r ≠ 0) : gwI w ys (cpU R r (rdV R v r)) (r + 1) := by
  have hv6 : v < 65536 := Nat.lt_of_lt_of_le hv.1 (pw16g w8)
  refine ⟨tr_add h.1 hv6 h0, fun i hi => ?_⟩
  by_cases c : i = r
  · subst c
    rw [show cpU R i (rdV R v i) i = rdV R v i from if_pos rfl]
    have h1 : fxG w ys (v ^^^ rdV R v i) := sp_cl fxG_0 (fun a b ha hb => fxG_x hn ha hb) h.2 (rd_sp R v i)
    have h2 := fxG_x hn hv h1
    rw [← Nat.xor_assoc, Nat.xor_self, Nat.zero_xor] at h2
    exact h2
  · rw [show cpU R r (rdV R v r) i = R i from if_neg c]
    exact h.2 i (by omega)
/-- what is known behind adding -/
def afK (w : Nat) (ys : Nat → R4) (x : Nat) (R : Nat → Nat) (r : Nat) : Prop := (x = 0 → ∀ z, z < 2 ^ w → sgV w ys x z ≠ -1 → Spn R r (x + 2 ^ w * z)) ∧ (x ≠ 0 → (∃ z, z < 2 ^ w ∧ sgV w ys x z ≠ -1 ∧ Spn R r (x + 2 ^ w * z)) ∨ ∀ z, z < 2 ^ w → sgV w ys x z = -1)
set_option maxRecDepth 100000 in
theorem afx_l {P : am_Q} {X : am_X} {R0 : Nat → Nat} {r0 : Nat} (hX : am_K (d + 2) false nm_X4_addFixing P X) (h : gcS M w ys) (hz : nzS w ys) (hx : x < 2 ^ w) (hq : ∀ i, i < 2 ^ w → M.1 23 i = qiV ys x i ∧ cmO ys x i) (hk : ∀ N R r, afF M N → gcR N R r → gwI w ys R r → (∀ v, Spn R0 r0 v → Spn R r v) → afK w ys x R r → P (.inl none) N) : ∀ (m z : Nat) (N : mm_M) (R : Nat → Nat) (r : Nat) (l3 : Option am_V), z + m = 2 ^ w → afF M N → gcR N R r → gwI w ys R r → (∀ v, Spn R0 r0 v → Spn R r v) → (x = 0 → ∀ z', z' < z → sgV w ys x z' ≠ -1 → Spn R r (x + 2 ^ w * z')) → (x ≠ 0 → ∀ z', z' < z → sgV w ys x z' = -1) → X 2 [some (aR 17), some (aI (nI x)), some (aI (nI z)), l3] [] N := by
  have w8 := h.1
  have h8 := w256 w8
  intro m
  induction m with
  | zero =>
    intro z N R r l3 hzm hF hR hG hS i1 i2
    obtain rfl : z = 2 ^ w := by omega
    have hN := gcS_a hF h
    refine am_run hX 6 _ _ _ _ ?_
    conv => whnf
    rw [hN.2.1]
    refine ⟨fun _ => ?_, fun c => absurd (nI_le (Nat.le_refl _) (by omega)) c⟩
    conv => whnf
    exact ⟨trivial, hk N R r hF hR hG hS ⟨i1, fun q => Or.inr (i2 q)⟩⟩
  | succ m ih =>
    intro z N R r l3 hzm hF hR hG hS i1 i2
    have hN := gcS_a hF h
    have zl : z < 2 ^ w := by omega
    have hq' : ∀ i, i < 2 ^ w → N.1 23 i = qiV ys x i ∧ cmO ys x i := fun i hi => by
      rw [hF.1 23 (by decide) (by decide)]
      exact hq i hi
    refine am_run hX 5 _ _ _ _ ?_
    conv => whnf
    rw [hN.2.1]
    refine ⟨fun c => absurd c (nI_ge (by omega) (by omega)), fun _ => ?_⟩
    refine am_run hX 4 _ _ _ _ ?_
    conv => whnf
    refine am_c1 (ct_sgnC (d := d) hN hz hx zl hq') ?_
    refine am_run hX 2 _ _ _ _ ?_
    conv => whnf
    refine ⟨fun c => ?_, fun c => ?_⟩
    · have hg : fxG w ys (x + 2 ^ w * z) := (sg_g hx zl).mp c
      have hv6 : x + 2 ^ w * z < 65536 := Nat.lt_of_lt_of_le hg.1 (pw16g w8)
      have r16 := tr_16 hG.1
      have hRl : ∀ j, j < r → R j < 65536 := fun j hj => (hG.1.1 j hj).1
      -- behind the row
      have hend : ∀ (N' : mm_M) (R' : Nat → Nat) (r' : Nat) (l3 : Option am_V), afF M N' → gcR N' R' r' → gwI w ys R' r' → (∀ v, Spn R r v → Spn R' r' v) → Spn R' r' (x + 2 ^ w * z) → X 75 [some (aR 17), some (aI (nI x)), some (aI (nI z)), l3] [] N' := by
        intro N' R' r' l3 hF' hR' hG' hS' hv'
        refine am_run hX 2 _ _ _ _ ?_
        conv => whnf
        rw [show (0 : Int32) = nI 0 from rfl, nI_eq (by omega) (by decide)]
        refine ⟨fun c0 => ?_, fun c0 => ?_⟩
        · refine am_run hX 2 _ _ _ _ ?_
          conv => whnf
          rw [nI_1]
          refine ih (z + 1) N' R' r' _ (by omega) hF' hR' hG' (fun v hv => hS' v (hS v hv)) (fun e z' hz' hs => ?_) (fun e => absurd c0 e)
          by_cases q : z' = z
          · subst q
            exact hv'
          · exact hS' _ (i1 e z' (by omega) hs)
        · refine am_run hX 1 _ _ _ _ ?_
          conv => whnf
          exact ⟨trivial, hk N' R' r' hF' hR' hG' (fun v hv => hS' v (hS v hv)) ⟨fun e => absurd e c0, fun _ => Or.inl ⟨z, zl, c, hv'⟩⟩⟩
      refine am_run hX 8 _ _ _ _ ?_
      conv => whnf
      rw [hN.2.2.1, nI_shl (by omega) (by have := v_lt hx zl; have := pw16g w8; rw [Nat.mul_comm]; omega), nI_or, cp_add hx, Nat.mul_comm z]
      refine am_c1 (ct_restG (d := d + 1) r16 hv6 hR hRl) ?_
      refine am_run hX 3 _ _ _ _ ?_
      conv => whnf
      have hrl : rdV R (x + 2 ^ w * z) r < 65536 := rdV_l hv6 hRl
      rw [show (0 : Int32) = nI 0 from rfl, nI_eq (by omega) (by decide)]
      refine ⟨fun c0 => ?_, fun c0 => ?_⟩
      · exact hend N R r _ hF hR hG (fun v hv => hv) ((tr_z hG.1 hv6).mp c0)
      · have hG' := gw_add hz w8 hG hg c0
        have r16' := tr_16 hG'.1
        refine am_run hX 6 _ _ _ _ ?_
        conv => whnf
        rw [hR.1]
        refine ⟨fun c1 => absurd c1 (nI_ge (a := r) (b := 16) (by omega) (by decide)), fun _ => ?_⟩
        refine am_run hX 12 _ _ _ _ ?_
        conv => whnf
        rw [hR.1]
        refine ⟨vp_in_nI (by show r < 16; omega) (by decide), ?_⟩
        conv => whnf
        rw [nI_clamp (n := r) (by omega)]
        refine hend _ (cpU R r (rdV R (x + 2 ^ w * z) r)) (r + 1) _ (afF_t hF ⟨fun k a b => ?_, rfl, fun y hy => ?_⟩) ⟨?_, fun i hi => ?_⟩ hG' (fun v hv => sp_add hv) sp_new
        · rw [mm_ne _ _ _ _ a, mm_ne _ _ _ _ b]
        · rw [mm_i1]
          refine (if_neg hy).trans ?_
          rw [mm_ne _ _ _ _ (by decide : (17 : Nat) ≠ 21)]
        · rw [mm_i1]
          show (mm_i N 21 _).1 17 10 + 1 = _
          rw [mm_ne _ _ _ _ (by decide : (17 : Nat) ≠ 21), hR.1, nI_1]
        · rw [mm_ne _ _ _ _ (by decide : (21 : Nat) ≠ 17), mm_i1]
          by_cases q : i = r
          · subst q
            rw [show upd (N.1 21) i (nI (rdV R (x + 2 ^ w * z) i)) i = nI (rdV R (x + 2 ^ w * z) i) from if_pos rfl, show cpU R i (rdV R (x + 2 ^ w * z) i) i = rdV R (x + 2 ^ w * z) i from if_pos rfl]
          · rw [show upd (N.1 21) r (nI (rdV R (x + 2 ^ w * z) r)) i = N.1 21 i from if_neg q, show cpU R r (rdV R (x + 2 ^ w * z) r) i = R i from if_neg q]
            exact hR.2 i (by omega)
    · have c : sgV w ys x z = -1 := Classical.not_not.mp c
      refine am_run hX 3 _ _ _ _ ?_
      conv => whnf
      rw [nI_1]
      refine ih (z + 1) N R r _ (by omega) hF hR hG hS (fun e z' hz' hs => ?_) (fun e z' hz' => ?_)
      · by_cases q : z' = z
        · subst q
          exact absurd c hs
        · exact i1 e z' (by omega) hs
      · by_cases q : z' = z
        · subst q
          exact c
        · exact i2 e z' (by omega)
set_option maxRecDepth 100000 in
theorem ct_addFx {R : Nat → Nat} {r : Nat} (h : gcS M w ys) (hz : nzS w ys) (hx : x < 2 ^ w) (hq : ∀ i, i < 2 ^ w → M.1 23 i = qiV ys x i ∧ cmO ys x i) (hR : gcR M R r) (hG : gwI w ys R r) : am_M (d + 3) false nm_X4_addFixing [aR 17, aI (nI x)] M (fun r1 N => r1 = .inl none ∧ ∃ R' r', afF M N ∧ gcR N R' r' ∧ gwI w ys R' r' ∧ (∀ v, Spn R r v → Spn R' r' v) ∧ afK w ys x R' r') := by
  refine ⟨rfl, rfl, rfl, fun X hX => am_run hX 2 _ _ _ _ ?_⟩
  conv => whnf
  exact afx_l (d := d) (R0 := R) (r0 := r) hX h hz hx hq (fun N R' r' a b c e f => ⟨rfl, R', r', a, b, c, e, f⟩) (2 ^ w) 0 M R r none (by omega) (afF_r M) hR hG (fun v hv => hv) (fun _ z' hz' => absurd hz' (Nat.not_lt_zero _)) (fun _ z' hz' => absurd hz' (Nat.not_lt_zero _))
end GPE
