/-! THE PAIR expected -/
theorem pn_x : ∀ (k x y : Nat), (pcn k (x ^^^ y) + pcn k x + pcn k y) % 2 = 0
  | 0, _, _ => rfl
  | k + 1, x, y => by
    have h := pn_x k (x / 2) (y / 2)
    simp only [pcn]
    have e : (x ^^^ y) % 2 = (x % 2) ^^^ (y % 2) := Nat.xor_mod_two_pow (n := 1)
    rw [Nat.xor_div_two, e]
    rcases (by omega : x % 2 = 0 ∨ x % 2 = 1) with a | a <;> rcases (by omega : y % 2 = 0 ∨ y % 2 = 1) with b | b <;> rw [a, b] <;> simp only [Nat.xor_self, Nat.zero_xor, Nat.xor_zero] <;> omega
theorem pc_x (x y : Nat) : (pc (x ^^^ y) + pc x + pc y) % 2 = 0 := pn_x 32 x y
/-- the eighths at a place -/
def ex_e (a b i : Nat) : Nat := (2 * pc (a &&& b) + 4 * pc (b &&& (i ^^^ a))) % 8
theorem ex_p (a b i : Nat) : 7 * ex_e a b i % 8 = ex_e a b (i ^^^ a) % 8 := by
  unfold ex_e
  have h := pc_x (b &&& i) (b &&& a)
  rw [← Nat.and_xor_distrib_left, Nat.and_comm b a] at h
  rw [Nat.xor_assoc, Nat.xor_self, Nat.xor_zero]
  omega
def exT (x : Nat → R4) (a b i : Nat) : R4 := mu (cj (x i)) (t8n (ex_e a b i) (x (i ^^^ a)))
theorem exT_e (x : Nat → R4) (a b i : Nat) : t8n (ex_e a b i) (mu (cj (x i)) (x (i ^^^ a))) = exT x a b i := by
  unfold exT
  rw [mu_c (cj (x i)), mu_c (cj (x i)), mu_t8n]
theorem ex_cj (x : Nat → R4) {a w : Nat} (b : Nat) (ha : a < 2 ^ w) : cj (sR (exT x a b) (2 ^ w)) = sR (exT x a b) (2 ^ w) := by
  rw [sR_cj, ← sR_x (exT x a b) ha]
  refine sR_ext _ fun i _ => ?_
  rw [← exT_e, cj_t8n, t8n_m, ex_p, ← t8n_m, mu_cj, cj_cj, ← exT_e, Nat.xor_assoc, Nat.xor_self, Nat.xor_zero, mu_c]
theorem ex_lm (x : Nat → R4) (a b i : Nat) : lm (nrm (x i) + nrm (x (i ^^^ a))) (exT x a b i) := by
  unfold exT
  have := lm_mu (cj (x i)) (t8n (ex_e a b i) (x (i ^^^ a)))
  rw [nrm_cj, nrm_t8n] at this
  exact this
theorem ex_B {M : mm_M} {c w k : Nat} {xs : Nat → R4} {a : Nat} (b : Nat) (ha : a < 2 ^ w) (h : ru_s M c w k) (hn : ru_n M w k xs) : (∀ i, i < 2 ^ w → bd (exT xs a b i)) ∧ ∀ i, i ≤ 2 ^ w → bd (sR (exT xs a b) i) := by
  have h60 := p60 h.2.2.2.1
  have hs : sI (fun i => nrm (xs i) + nrm (xs (i ^^^ a))) (2 ^ w) ≤ 2 ^ 62 := by
    rw [sI_add, sI_x w a (fun i => nrm (xs i)) ha]
    have := hn.2
    omega
  have h0 : ∀ i, i < 2 ^ w → 0 ≤ (fun i => nrm (xs i) + nrm (xs (i ^^^ a))) i := fun i _ => by
    have := nrm0 (xs i)
    have := nrm0 (xs (i ^^^ a))
    show 0 ≤ nrm (xs i) + nrm (xs (i ^^^ a))
    omega
  exact ⟨fun i hi => sb_T h0 (fun j _ => ex_lm xs a b j) hs hi, fun i hi => sb_S h0 (fun j _ => ex_lm xs a b j) hs hi⟩
section EXP
variable {d : Nat} {M : mm_M} {g : Nat → Int64}
set_option maxRecDepth 100000 in
theorem ep_l {P : am_Q} {X : am_X} {w a b : Nat} {xs : Nat → R4} {q : Int32} (hX : am_K (d + 2) false nm_X4_expectedPart P X) (hN : M.1 18 2 = nI (2 ^ w)) (w8 : w ≤ 8) (ha : a < 2 ^ w) (hb : b < 2 ^ w) (hx : ∀ j, j < 2 ^ w → rt_at M 20 j (xs j)) (hK : ∀ l6, X 71 [some (aR 17), some (aI (nI a)), some (aI (nI b)), some (aI q), some (aI (nI (pc (a &&& b)))), some (aI (nI (2 ^ w))), l6] [] (mm_l M 19 (s4 g (sR (exT xs a b) (2 ^ w))))) : ∀ (m i : Nat), i + m = 2 ^ w → ∀ l6, X 18 [some (aR 17), some (aI (nI a)), some (aI (nI b)), some (aI q), some (aI (nI (pc (a &&& b)))), some (aI (nI i)), l6] [] (mm_l M 19 (s4 g (sR (exT xs a b) i))) := by
  have h8 := w256 w8
  intro m
  induction m with
  | zero =>
    intro i hi l6
    have hi : i = 2 ^ w := by omega
    subst hi
    refine am_run hX 5 _ _ _ _ ?_
    conv => whnf
    rw [show (mm_l M 19 (s4 g (sR (exT xs a b) (2 ^ w)))).1 18 2 = nI (2 ^ w) from hN]
    exact ⟨fun _ => hK _, fun c => absurd (nI_le (by omega) (by omega)) c⟩
  | succ m ih =>
    intro i hi l6
    have ih := ih (i + 1) (by omega)
    simp only [sR] at ih
    have hf := xq_lt (by omega : i < 2 ^ w) ha
    have hz : b &&& (i ^^^ a) < 2 ^ w := Nat.and_lt_two_pow _ hf
    refine am_run hX 5 _ _ _ _ ?_
    conv => whnf
    rw [show (mm_l M 19 (s4 g (sR (exT xs a b) i))).1 18 2 = nI (2 ^ w) from hN]
    refine ⟨fun c => absurd c (nI_ge (by omega) (by omega)), fun _ => ?_⟩
    refine am_run hX 24 _ _ _ _ ?_
    conv => whnf
    rw [nI_xor, nI_and]
    refine am_c1 (ct_bit16 (d + 1) (b &&& (i ^^^ a)) (by omega) _) ?_
    conv => whnf
    rw [show (2 : Int32) = nI 2 from rfl, show (4 : Int32) = nI 4 from rfl, nI_mul, nI_mul, nI_add, nI_m7]
    refine am_c0 (ct_prod19 (d := d) (e := ex_e a b i) (by omega) (by omega) (Nat.mod_lt _ (by decide)) (hx i (by omega)) (hx (i ^^^ a) hf)) ?_
    rw [exT_e]
    conv => whnf
    rw [nI_1]
    exact ih _
set_option maxRecDepth 100000 in
theorem ct_epart {w k a b : Nat} {xs : Nat → R4} {q : Int32} (hN : M.1 18 2 = nI (2 ^ w)) (w8 : w ≤ 8) (hk : M.1 18 3 = nI k) (hk2 : k ≤ 60) (ha : a < 2 ^ w) (hb : b < 2 ^ w) (hx : ∀ j, j < 2 ^ w → rt_at M 20 j (xs j)) (hs : bd (sR (exT xs a b) (2 ^ w))) : am_M (d + 3) false nm_X4_expectedPart [aR 17, aI (nI a), aI (nI b), aI q] M (am_q1 (aJ (rq (rh k (sR (exT xs a b) (2 ^ w)).1 (sR (exT xs a b) (2 ^ w)).2.1) q)) (mm_l M 19 (s4 (M.2 19) (sR (exT xs a b) (2 ^ w))))) := by
  have hbb := hs
  simp only [bd] at hbb
  have h8 := w256 w8
  have hab : a &&& b < 2 ^ w := Nat.and_lt_two_pow _ hb
  refine ⟨rfl, rfl, rfl, fun X hX => am_run hX 10 _ _ _ _ ?_⟩
  conv => whnf
  refine am_c0 (ct_clear19 (d := d)) ?_
  conv => whnf
  rw [nI_and]
  refine am_c1 (ct_bit16 (d + 1) (a &&& b) (by omega) _) ?_
  conv => whnf
  refine ep_l (d := d) (M := M) (g := M.2 19) hX hN w8 ha hb hx ?_ (2 ^ w) 0 (by omega) _
  intro l6
  refine am_run hX 30 _ _ _ _ ?_
  conv => whnf
  refine ⟨by first | exact i5_0 | exact i5_1 | exact i5_2 | exact i5_3 | exact i5_4 | exact i5_01 | exact i5_02 | exact i5_03 | exact i5_04 | exact i4_0 | exact i4_1 | exact i4_2 | exact i4_3 | decide, ?_⟩
  conv => whnf
  refine ⟨by first | exact i5_0 | exact i5_1 | exact i5_2 | exact i5_3 | exact i5_4 | exact i5_01 | exact i5_02 | exact i5_03 | exact i5_04 | exact i4_0 | exact i4_1 | exact i4_2 | exact i4_3 | decide, ?_⟩
  conv => whnf
  rw [mm_l2, show (mm_l M 19 (s4 (M.2 19) (sR (exT xs a b) (2 ^ w)))).1 18 3 = nI k from hk, k_0, k_1]
  refine am_c1 (ct_real (d := d + 1) (u := (sR (exT xs a b) (2 ^ w)).1) (v := (sR (exT xs a b) (2 ^ w)).2.1) q (by omega) (by omega) (by omega)) ?_
  conv => whnf
  exact ⟨trivial, rfl, rfl⟩
/-- what expected takes -/
def ex_ok (w : Nat) (s v : Int32) : Prop := (¬ s < 0 ∧ ¬ nI (2 ^ w) ≤ s) ∧ (¬ v < 0 ∧ ¬ nI (2 ^ w) ≤ v)
set_option maxRecDepth 100000 in
theorem ex_x1 {c w k a b : Nat} {xs : Nat → R4} {q : Int32} (h : ru_s M c w k) (hn : ru_n M w k xs) (ha : a < 2 ^ w) (hb : b < 2 ^ w) (hs : bd (sR (exT xs a b) (2 ^ w))) (q0 : ¬ q < 0) (q2 : q ≤ 2) (t : Bool) : am_M (d + 4) t nm_X11_expected [aR 0, aI (nI a), aI (nI b), aI q] M (am_q1 (aJ (rq (rh k (sR (exT xs a b) (2 ^ w)).1 (sR (exT xs a b) (2 ^ w)).2.1) q)) (mm_l M 19 (s4 (M.2 19) (sR (exT xs a b) (2 ^ w))))) := by
  obtain ⟨c20, w1, w8, k60, e1, e2, e3, e4, e5, e6, e7, _⟩ := h
  have hw := w256 w8
  refine ⟨rfl, rfl, rfl, fun X hX => am_run hX 60 _ _ _ _ ?_⟩
  conv => whnf
  rw [e1]
  refine ⟨fun c => absurd c (nI_nm (by omega)), fun _ => ?_⟩
  conv => whnf
  refine am_c1 (ct_hasW (d := d + 2) (nI a) e4 w8) ?_
  rw [if_pos ⟨nI_pos (by omega), nI_ge ha (by omega)⟩]
  conv => whnf
  refine ⟨fun c => absurd c (by decide), fun _ => ?_⟩
  conv => whnf
  refine am_c1 (ct_hasW (d := d + 2) (nI b) e4 w8) ?_
  rw [if_pos ⟨nI_pos (by omega), nI_ge hb (by omega)⟩]
  conv => whnf
  refine ⟨fun c => absurd c (by decide), fun _ => ?_⟩
  conv => whnf
  refine ⟨fun c => absurd c q0, fun _ => ?_⟩
  conv => whnf
  refine ⟨fun _ => ?_, fun c => absurd q2 c⟩
  conv => whnf
  refine am_c1 (ct_epart (d := d) e6 w8 e7 k60 ha hb (fun j hj => (hn.1 j hj).1) hs) ?_
  conv => whnf
  exact ⟨trivial, rfl, rfl⟩
def ex_no (M : mm_M) (s v q : Int32) : Prop := (M.1 17 5 = -1 ∧ M.1 108 65 = 0) ∨ ∃ c w k xs, (ru_s M c w k ∧ ru_n M w k xs) ∧ (¬ ex_ok w s v ∨ q < 0 ∨ ¬ q ≤ 2)
set_option maxRecDepth 100000 in
theorem ex_x0 {s v q : Int32} (h : ex_no M s v q) : am_M 999 true nm_X11_expected [aR 0, aI s, aI v, aI q] M (fun r M' => r = .inr "java/util/NoSuchElementException" ∧ M' = M) := by
  refine ⟨rfl, rfl, rfl, fun X hX => am_run hX 60 _ _ _ _ ?_⟩
  conv => whnf
  refine ⟨fun c => ?_, fun c => ?_⟩
  · conv => whnf
    exact ⟨⟨by decide, rfl⟩, rfl, rfl⟩
  · rcases h with h | ⟨c9, w, k, xs, ⟨h, _⟩, hx⟩
    · exact absurd h.1 c
    · conv => whnf
      refine am_c1 (ct_hasW (d := 997) s h.2.2.2.2.2.2.2.1 h.2.2.1) ?_
      by_cases c1 : (¬ s < 0 ∧ ¬ nI (2 ^ w) ≤ s)
      · rw [if_pos c1]
        conv => whnf
        refine ⟨fun c => absurd c (by decide), fun _ => ?_⟩
        conv => whnf
        refine am_c1 (ct_hasW (d := 997) v h.2.2.2.2.2.2.2.1 h.2.2.1) ?_
        by_cases c2 : (¬ v < 0 ∧ ¬ nI (2 ^ w) ≤ v)
        · rw [if_pos c2]
          conv => whnf
          refine ⟨fun c => absurd c (by decide), fun _ => ?_⟩
          conv => whnf
          refine ⟨fun c3 => ?_, fun c3 => ?_⟩
          · conv => whnf
            exact ⟨⟨by decide, rfl⟩, rfl, rfl⟩
          · conv => whnf
            refine ⟨fun c4 => ?_, fun c4 => ?_⟩
            · rcases hx with hx | hx | hx
              · exact absurd ⟨c1, c2⟩ hx
              · exact absurd hx c3
              · exact absurd c4 hx
            · conv => whnf
              exact ⟨⟨by decide, rfl⟩, rfl, rfl⟩
        · rw [if_neg c2]
          conv => whnf
          refine ⟨fun _ => ?_, fun c => absurd rfl c⟩
          conv => whnf
          exact ⟨⟨by decide, rfl⟩, rfl, rfl⟩
      · rw [if_neg c1]
        conv => whnf
        refine ⟨fun _ => ?_, fun c => absurd rfl c⟩
        conv => whnf
        exact ⟨⟨by decide, rfl⟩, rfl, rfl⟩
set_option maxRecDepth 100000 in
theorem ct_lpauli {a b i w l : Nat} {y : R4} (hi : i < 2 ^ w) (ha : a < 2 ^ w) (hb : b < 2 ^ w) (w8 : w ≤ 8) (hx : at5 (M.2 150) (5 * (i ^^^ a)) y l) : am_M (d + 2) false nm_X12_loadPauli [aR 108, aI (nI a), aI (nI b), aI (nI i)] M (am_q0 (mm_l M 118 (ov (M.2 118) (t8n (ex_e a b i) y) l))) := by
  have h8 := w256 w8
  have hf := xq_lt hi ha
  have hz : (i ^^^ a) &&& b < 2 ^ w := Nat.and_lt_two_pow _ hb
  have hab : a &&& b < 2 ^ w := Nat.and_lt_two_pow _ hb
  refine ⟨rfl, rfl, rfl, fun X hX => am_run hX 40 _ _ _ _ ?_⟩
  conv => whnf
  rw [nI_xor, show (5 : Int32) = nI 5 from rfl, nI_mul]
  refine am_c0 (ct_ld150 (d := d) (by omega) hx) ?_
  conv => whnf
  rw [nI_and]
  refine am_c1 (ct_count d (a &&& b) (by omega) _) ?_
  conv => whnf
  rw [nI_xor, nI_and]
  refine am_c1 (ct_count d ((i ^^^ a) &&& b) (by omega) _) ?_
  conv => whnf
  rw [show (2 : Int32) = nI 2 from rfl, show (4 : Int32) = nI 4 from rfl, nI_mul, nI_mul, nI_add]
  refine am_c0 (ct_turn1 (d := d) (n := ex_e a b i) (Nat.mod_lt _ (by decide)) (by rw [nI_m7, Nat.and_comm (i ^^^ a) b]; rfl)) ?_
  conv => whnf
  exact ⟨trivial, rfl, rfl⟩
set_option maxRecDepth 100000 in
theorem er_l {P : am_Q} {X : am_X} {w k a b : Nat} {xs : Nat → R4} {q : Int32} (hX : am_K (d + 4) false nm_X12_expected P X) (hw : M.1 108 71 = nI w) (w8 : w ≤ 8) (k60 : k ≤ 60) (ha : a < 2 ^ w) (hb : b < 2 ^ w) (hn : ru_n M w k xs) (hT : ∀ i, i < 2 ^ w → bd (exT xs a b i)) (hS : ∀ i, i ≤ 2 ^ w → bd (sR (exT xs a b) i)) (hK : ∀ q' o f, X 87 [some (aR 108), some (aI (nI a)), some (aI (nI b)), some (aI q), some (aI 1), some (aI (nI (2 ^ w)))] [] (w4 M q' o f (ov (M.2 153) (red (2 * k) (sR (exT xs a b) (2 ^ w))).1 (red (2 * k) (sR (exT xs a b) (2 ^ w))).2))) : ∀ (m i : Nat), i + m = 2 ^ w → ∀ q' o f, X 37 [some (aR 108), some (aI (nI a)), some (aI (nI b)), some (aI q), some (aI 1), some (aI (nI i))] [] (w4 M q' o f (ov (M.2 153) (red (2 * k) (sR (exT xs a b) i)).1 (red (2 * k) (sR (exT xs a b) i)).2)) := by
  have h8 := w256 w8
  intro m
  induction m with
  | zero =>
    intro i hi q' o f
    have hi : i = 2 ^ w := by omega
    subst hi
    refine am_run hX 2 _ _ _ _ ?_
    conv => whnf
    refine ⟨fun c => absurd c (by decide), fun _ => ?_⟩
    refine am_run hX 6 _ _ _ _ ?_
    conv => whnf
    rw [show (w4 M q' o f (ov (M.2 153) (red (2 * k) (sR (exT xs a b) (2 ^ w))).1 (red (2 * k) (sR (exT xs a b) (2 ^ w))).2)).1 108 71 = nI w from hw, sh2 w (by omega)]
    exact ⟨fun _ => hK _ _ _, fun c => absurd (nI_le (by omega) (by omega)) c⟩
  | succ m ih =>
    intro i hi q' o f
    have ih := ih (i + 1) (by omega)
    simp only [sR] at ih
    have hf := xq_lt (by omega : i < 2 ^ w) ha
    refine am_run hX 2 _ _ _ _ ?_
    conv => whnf
    refine ⟨fun c => absurd c (by decide), fun _ => ?_⟩
    refine am_run hX 6 _ _ _ _ ?_
    conv => whnf
    rw [show (w4 M q' o f (ov (M.2 153) (red (2 * k) (sR (exT xs a b) i)).1 (red (2 * k) (sR (exT xs a b) i)).2)).1 108 71 = nI w from hw, sh2 w (by omega)]
    refine ⟨fun c => absurd c (nI_ge (by omega) (by omega)), fun _ => ?_⟩
    have b1 := hT i (by omega)
    have b2 := hS (i + 1) (by omega)
    simp only [sR] at b2
    have hr := (at_rf (by have := (vr_red k (xs i)).1; omega)).mp (hn.1 i (by omega)).2
    have hr2 := (at_rf (by have := (vr_red k (xs (i ^^^ a))).1; omega)).mp (hn.1 (i ^^^ a) hf).2
    refine am_run hX 18 _ _ _ _ ?_
    conv => whnf
    refine am_c0 (ct_lpauli (d := d + 2) (M := w4 M q' o f (ov (M.2 153) (red (2 * k) (sR (exT xs a b) i)).1 (red (2 * k) (sR (exT xs a b) i)).2)) (by omega : i < 2 ^ w) ha hb w8 hr2) ?_
    conv => whnf
    refine am_c0 (ct_store152 (d := d + 3) (a := 0) (by omega)) ?_
    rw [mm_l2, mm_lne _ 118 152 _ (by decide), sv_0, w4_q]
    conv => whnf
    refine am_cq (ct_prodR152 (d := d) (a := 0) (Y := t8n (ex_e a b i) (xs (i ^^^ a))) (Z := sR (exT xs a b) i) (by omega) (by omega) (by omega) hr (at_ov _ _ _) (vr_t8n _ (vr_red k (xs (i ^^^ a)))) (at_ov _ _ _) b1 b2) ?_
    rintro r M' ⟨rfl, o', f', rfl⟩
    refine ⟨none, rfl, ?_⟩
    rw [w4_a, show ∀ q1 o1 f1 s1, (w4 M q1 o1 f1 s1).2 153 = s1 from fun _ _ _ _ => rfl, ov_ov]
    conv => whnf
    rw [nI_1]
    exact ih _ _ _
set_option maxRecDepth 100000 in
theorem ex_ml {X : am_X} {P : am_Q} {q : Int32} {x : R4} {l : Nat} {b s v i : Int32} (hX : am_K (d + 4) false nm_X12_expected P X) (hb : bd x) (hl : l < 2 ^ 30) (q' o f : Nat → Int64) (h : (b = 1 ∧ ¬ q < 0 ∧ q ≤ 2 ∧ ∀ f', P (.inl (some (aJ (rq (rhs l x) q)))) (th0 (w4 M q' o f' (ov g x l)))) ∨ ((b = 0 ∨ q < 0 ∨ 2 < q) ∧ ∀ f', P (.inl (some (aJ 0))) (th1 (w4 M q' o f' (ov g x l))))) : X 87 [some (aR 108), some (aI s), some (aI v), some (aI q), some (aI b), some (aI i)] [] (w4 M q' o f (ov g x l)) := by
  refine am_run hX 30 _ _ _ _ ?_
  conv => whnf
  refine am_c0 (ct_ld153 (d := d + 3) (a := 0) (by omega) (at_ov _ _ _)) ?_
  conv => whnf
  rcases h with ⟨rfl, q0, q2, h⟩ | ⟨hq, h⟩
  · refine am_c1 (ct_tellr1 (d := d + 2) q0 q2 hl hb) ?_
    conv => whnf
    refine ⟨trivial, ?_⟩
    rw [w4_f]
    exact h _
  · refine am_c1 (ct_tellr0 (d := d + 3) hq) ?_
    conv => whnf
    refine ⟨trivial, ?_⟩
    rw [w4_f]
    exact h _
set_option maxRecDepth 100000 in
theorem ex_m1 {c w k a b : Nat} {xs : Nat → R4} {q : Int32} {P : am_Q} (h : ru_s M c w k) (hn : ru_n M w k xs) (ha : a < 2 ^ w) (hb : b < 2 ^ w) (hT : ∀ i, i < 2 ^ w → bd (exT xs a b i)) (hS : ∀ i, i ≤ 2 ^ w → bd (sR (exT xs a b) i)) (hP : (¬ q < 0 ∧ q ≤ 2 ∧ ∀ q' o f s', P (.inl (some (aJ (rq (rh k (sR (exT xs a b) (2 ^ w)).1 (sR (exT xs a b) (2 ^ w)).2.1) q)))) (th0 (w4 M q' o f s'))) ∨ ((q < 0 ∨ 2 < q) ∧ ∀ q' o f s', P (.inl (some (aJ 0))) (th1 (w4 M q' o f s')))) : am_M (d + 5) false nm_X12_expected [aR 108, aI (nI a), aI (nI b), aI q] M P := by
  obtain ⟨c20, w1, w8, k60, e1, e2, e3, e4, e5, e6, e7, _⟩ := h
  have hw := w256 w8
  have hr := vr_rh (vr_red (2 * k) (sR (exT xs a b) (2 ^ w))) (ex_cj xs b ha)
  have hl := (vr_red (2 * k) (sR (exT xs a b) (2 ^ w))).1
  have hbb := vr_bd (vr_red (2 * k) (sR (exT xs a b) (2 ^ w))) (hS _ (Nat.le_refl _))
  have z : red (2 * k) (sR (exT xs a b) 0) = ((0, 0, 0, 0), 0) := red_0 _
  refine ⟨rfl, rfl, rfl, fun X hX => am_run hX 3 _ _ _ _ ?_⟩
  conv => whnf
  rw [e2]
  refine ⟨fun c => absurd c (by decide), fun _ => ?_⟩
  refine am_run hX 4 _ _ _ _ ?_
  conv => whnf
  refine am_c1 (ct_isSet (d := d + 3) (nI a) e5 w8) ?_
  rw [if_pos ⟨nI_pos (by omega), nI_ge ha (by omega)⟩]
  conv => whnf
  refine ⟨fun c => absurd c (by decide), fun _ => ?_⟩
  refine am_run hX 4 _ _ _ _ ?_
  conv => whnf
  refine am_c1 (ct_isSet (d := d + 3) (nI b) e5 w8) ?_
  rw [if_pos ⟨nI_pos (by omega), nI_ge hb (by omega)⟩]
  conv => whnf
  refine ⟨fun c => absurd c (by decide), fun _ => ?_⟩
  refine am_run hX 7 _ _ _ _ ?_
  conv => whnf
  refine am_c0 (ct_clr (d := d + 3)) ?_
  rw [w4_s]
  conv => whnf
  have key := er_l (d := d) (M := M) (q := q) hX e5 w8 k60 ha hb hn hT hS ?_ (2 ^ w) 0 (by omega) (M.2 152) (M.2 119) (M.2 118)
  · rw [z] at key
    exact key
  · intro q' o f
    refine ex_ml hX hbb (by omega) q' o f ?_
    rw [hr]
    rcases hP with ⟨q0, q2, hP⟩ | ⟨hq, hP⟩
    · exact Or.inl ⟨rfl, q0, q2, fun f' => hP _ _ _ _⟩
    · exact Or.inr ⟨Or.inr hq, fun f' => hP _ _ _ _⟩
set_option maxRecDepth 100000 in
theorem ex_mz {X : am_X} {P : am_Q} {s v q : Int32} (hX : am_K (d + 4) false nm_X12_expected P X) (hP : ∀ q' o f s', P (.inl (some (aJ 0))) (th1 (w4 M q' o f s'))) : X 27 [some (aR 108), some (aI s), some (aI v), some (aI q), none, none] [] M := by
  refine am_run hX 6 _ _ _ _ ?_
  conv => whnf
  refine am_c0 (ct_clr (d := d + 3)) ?_
  rw [w4_s]
  conv => whnf
  refine am_run hX 2 _ _ _ _ ?_
  conv => whnf
  refine ⟨fun _ => ?_, fun c => absurd rfl c⟩
  exact ex_ml hX (by simp [bd]) (by decide) _ _ _ (Or.inr ⟨Or.inl rfl, fun f' => hP _ _ _ _⟩)
theorem set_n {s : Int32} {w : Nat} (w8 : w ≤ 8) (h : ¬ s < 0 ∧ ¬ nI (2 ^ w) ≤ s) : ∃ a, a < 2 ^ w ∧ s = nI a := by
  have hw := w256 w8
  obtain ⟨a, ha, rfl⟩ := nI_of h.1
  refine ⟨a, ?_, rfl⟩
  apply Decidable.byContradiction
  intro hc
  exact h.2 (nI_le (by omega) ha)
set_option maxRecDepth 100000 in
theorem ex_m0 {s v q : Int32} {P : am_Q} (h : ex_no M s v q) (hP : ∀ q' o f s', P (.inl (some (aJ 0))) (th1 (w4 M q' o f s'))) : am_M (d + 5) false nm_X12_expected [aR 108, aI s, aI v, aI q] M P := by
  rcases h with h | ⟨c9, w, k, xs, ⟨h, hn⟩, hx⟩
  · refine ⟨rfl, rfl, rfl, fun X hX => am_run hX 3 _ _ _ _ ?_⟩
    conv => whnf
    refine ⟨fun _ => ex_mz hX hP, fun c => absurd h.2 c⟩
  · by_cases ho : ex_ok w s v
    · obtain ⟨a, ha, rfl⟩ := set_n h.2.2.1 ho.1
      obtain ⟨b, hb, rfl⟩ := set_n h.2.2.1 ho.2
      obtain ⟨hT, hS⟩ := ex_B b ha h hn
      refine ex_m1 h hn ha hb hT hS (Or.inr ⟨?_, hP⟩)
      rcases hx with hx | hx | hx
      · exact absurd ho hx
      · exact Or.inl hx
      · exact Or.inr (Int32.not_le.mp hx)
    · refine ⟨rfl, rfl, rfl, fun X hX => am_run hX 3 _ _ _ _ ?_⟩
      conv => whnf
      refine ⟨fun _ => ex_mz hX hP, fun _ => ?_⟩
      refine am_run hX 4 _ _ _ _ ?_
      conv => whnf
      refine am_c1 (ct_isSet (d := d + 3) s h.2.2.2.2.2.2.2.2.1 h.2.2.1) ?_
      by_cases c1 : (¬ s < 0 ∧ ¬ nI (2 ^ w) ≤ s)
      · rw [if_pos c1]
        conv => whnf
        refine ⟨fun c => absurd c (by decide), fun _ => ?_⟩
        refine am_run hX 4 _ _ _ _ ?_
        conv => whnf
        refine am_c1 (ct_isSet (d := d + 3) v h.2.2.2.2.2.2.2.2.1 h.2.2.1) ?_
        rw [if_neg (fun c2 => ho ⟨c1, c2⟩)]
        conv => whnf
        exact ⟨fun _ => ex_mz hX hP, fun c => absurd rfl c⟩
      · rw [if_neg c1]
        conv => whnf
        exact ⟨fun _ => ex_mz hX hP, fun c => absurd rfl c⟩
end EXP
section EXR
variable {ac : Nat → ClassId} {lo : Nat} {ad as : Nat → Nat} {b L : Nat} {xs : Nat → Int32} {hp : mm_M → Nat → xm_H} {I J : mm_M → Prop}
theorem pr_expected (H : mm_L ac lo hp) (h1 : ∀ M, I M → ru_x M) (hJ : ∀ M g v q o f s, I M → J (th0 (w4 (lt_o (mm_l M 19 g) v) q o f s))) (hJ1 : ∀ M q o f s, I M → J (th1 (w4 M q o f s))) (p0 p1 p2 : Int32) : la_TJ ac lo ad as b L xs hp I J nm_L_expected nm_X12_expected [.int p0, .int p1, .int p2] := by
  refine lt_expected H p0 p1 p2 fun M hI => ?_
  have hno : ex_no M p0 p1 p2 → am_M 999 true nm_X11_expected (aR 0 :: [aI p0, aI p1, aI p2]) M (fun r M1 => (∃ v, r = .inl (some (aJ v)) ∧ am_M 1000 false nm_X12_expected (aR 108 :: [aI p0, aI p1, aI p2]) (lt_o M1 v) (fun r' M2 => r' = .inl (some (aJ v)) ∧ M2.1 108 0 = 0 ∧ M2.2 202 0 = v ∧ J M2)) ∨ (r = .inr "java/util/NoSuchElementException" ∧ am_M 1000 false nm_X12_expected (aR 108 :: [aI p0, aI p1, aI p2]) M1 (fun r' M2 => (∃ w, r' = .inl (some (aJ w))) ∧ M2.1 108 0 = 1 ∧ J M2))) := fun hx => by
    refine am_wk (ex_x0 hx) fun r M1 e => Or.inr ⟨e.1, ?_⟩
    rw [e.2]
    exact ex_m0 (d := 995) hx (fun q' o f s' => ⟨⟨0, rfl⟩, by simp [th1, mm_i, upd], hJ1 M q' o f s' hI⟩)
  rcases h1 M hI with h | ⟨c, w, k, x, h, hn⟩
  · exact hno (Or.inl h)
  · by_cases hx : ¬ ex_ok w p0 p1 ∨ p2 < 0 ∨ ¬ p2 ≤ 2
    · exact hno (Or.inr ⟨c, w, k, x, ⟨h, hn⟩, hx⟩)
    · have ho : ex_ok w p0 p1 := Classical.byContradiction fun c => hx (Or.inl c)
      have q0 : ¬ p2 < 0 := fun c => hx (Or.inr (Or.inl c))
      have q2 : p2 ≤ 2 := Decidable.byContradiction fun c => hx (Or.inr (Or.inr c))
      obtain ⟨a, ha, rfl⟩ := set_n h.2.2.1 ho.1
      obtain ⟨b', hb, rfl⟩ := set_n h.2.2.1 ho.2
      obtain ⟨hT, hS⟩ := ex_B b' ha h hn
      refine am_wk (ex_x1 (d := 995) h hn ha hb (hS _ (Nat.le_refl _)) q0 q2 true) fun r M1 e => Or.inl ⟨_, e.1, ?_⟩
      rw [e.2]
      obtain ⟨h', hn'⟩ := ru_lt (s4 (M.2 19) (sR (exT x a b') (2 ^ w))) (rq (rh k (sR (exT x a b') (2 ^ w)).1 (sR (exT x a b') (2 ^ w)).2.1) p2) ⟨h, hn⟩
      exact ex_m1 (d := 995) h' hn' ha hb hT hS (Or.inl ⟨q0, q2, fun q' o f s' => ⟨rfl, by simp [th0, mm_i, upd], by simp [th0, w4, lt_o, mm_i, mm_l, vp_updL], hJ M _ _ q' o f s' hI⟩⟩)
end EXR
