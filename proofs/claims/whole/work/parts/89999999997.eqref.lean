/-! THE REFERENCE'S runAll, powersOf, aside -/
theorem prb5 (a j : Nat) {q : Nat} (hq : q < 5) : pr5 (red 0 (bas a j)) q = if j = a ∧ q = 0 then 1 else 0 := by
  show pr5 (bas a j, 0) q = _
  unfold bas
  by_cases h : j = a
  · rw [if_pos h]
    rcases (by omega : q = 0 ∨ q = 1 ∨ q = 2 ∨ q = 3 ∨ q = 4) with rfl | rfl | rfl | rfl | rfl
    · rw [if_pos ⟨h, rfl⟩]
      decide
    · rw [if_neg (by omega)]
      decide
    · rw [if_neg (by omega)]
      decide
    · rw [if_neg (by omega)]
      decide
    · rw [if_neg (by omega)]
      decide
  · rw [if_neg h, if_neg (fun z => h z.1)]
    exact pr_z hq
theorem bas_c5 {g : Nat → Int64} {N a : Nat} (ha : a < N) (hN : 5 * N ≤ 1280) : vp_updL (fun j => if j < 1280 then 0 else g j) (5 * a) 1 = c5 (fun j => if j < 1280 then 0 else g j) N (fun j => red 0 (bas a j)) := by
  funext p
  unfold vp_updL c5
  by_cases h2 : p < 5 * N
  · rw [if_pos h2, prb5 a _ (Nat.mod_lt _ (by decide))]
    by_cases h : p = 5 * a
    · rw [if_pos h, if_pos (by omega)]
    · rw [if_neg h, if_neg (by omega)]
      dsimp only
      rw [if_pos (by omega)]
  · rw [if_neg h2, if_neg (by omega)]
theorem v4_w (N : mm_M) (s : Nat → Int64) : v4 N (N.2 152) (N.2 119) (N.2 118) s = mm_l N 150 s := by
  unfold v4
  rw [mm_lz, mm_lz, mm_lz]
/-- the row of the reference itself, with a width -/
def wd (M : mm_M) (W : Nat) : mm_M := mm_i M 108 (upd (upd (M.1 108) 71 (nI W)) 74 0)
theorem wd_74 (M : mm_M) (W : Nat) : mm_i (wd M W) 108 (upd ((wd M W).1 108) 74 0) = wd M W := by
  unfold wd
  rw [mm_i1, upd_two, mm_ii]
def zs0 (M : mm_M) : Nat → Int64 := fun j => if j < 1280 then 0 else M.2 150 j
theorem t8_b1 {x : R4} (h : bd x) : bd (t8 x) := by
  obtain ⟨a, b, c, d⟩ := x
  simp only [bd, t8] at *
  omega
theorem t8_bd {x : R4} (h : bd x) : ∀ n, bd (t8n n x)
  | 0 => h
  | n + 1 => t8_b1 (t8_bd h n)
section EQR
variable {d : Nat} {M : mm_M} {g : Nat → Int64}
set_option maxRecDepth 100000 in
theorem ra_l5 {P : am_Q} {X : am_X} {n c W S a : Nat} {op : Nat → bk_X} (hX : am_K (d + 5) false nm_X12_runAll P X) (h : cir M n c W S op) (hp : ∀ j, j < S → (op j).1 < 9) (hP : ∀ q o f, P (.inl none) (v4 (wd M W) q o f (c5 (zs0 M) (2 ^ W) (fun j => red (au W op a S).1 ((au W op a S).2 j))))) : ∀ (m i : Nat), i + m = S → ∀ q o f, X 17 [some (aR 108), some (aI (nI c)), some (aI (nI a)), some (aI (nI (300 * c + i)))] [] (v4 (wd M W) q o f (c5 (zs0 M) (2 ^ W) (fun j => red (au W op a i).1 ((au W op a i).2 j)))) := by
  obtain ⟨hbk, hcc, hbc, hops, h60⟩ := h
  have hS300 := hbc.2.2.1
  have hn20 := hbk.1
  have w8 := hbc.2.1
  have e3 : (300 : Int32) * nI c + nI S = nI (300 * c + S) := by rw [show (300 : Int32) = nI 300 from rfl, nI_mul, nI_add]
  intro m
  induction m with
  | zero =>
    intro i hi q o f
    have hi : i = S := by omega
    subst hi
    refine am_run hX 16 _ _ _ _ ?_
    conv => whnf
    refine ⟨vp_in_nI (by show c < 21; omega) (by decide), ?_⟩
    conv => whnf
    rw [nI_clamp (n := c) (by omega), show (v4 (wd M W) q o f (c5 (zs0 M) (2 ^ W) (fun j => red (au W op a i).1 ((au W op a i).2 j)))).1 111 c = nI i from hbc.2.2.2.2.2.2.1, e3]
    refine ⟨fun _ => ?_, fun c => absurd (nI_le (by omega) (by omega)) c⟩
    conv => whnf
    exact ⟨trivial, hP _ _ _⟩
  | succ m ih =>
    intro i hi q o f
    have ih := ih (i + 1) (by omega)
    obtain ⟨og, o1', o2, o3, o4, o5, o6, o7⟩ := hops i (by omega)
    have hap := ogd_a og
    have h9 := hp i (by omega)
    obtain ⟨_, hk⟩ := au_ok (a := a) (fun j hj => (hops j hj).1) i (by omega)
    have hm := hcn_m op i (S - i)
    rw [show i + (S - i) = S by omega] at hm
    have hb := au_bd (a := a) (fun j hj => (hops j hj).1) h60 (show i + 1 ≤ S by omega)
    refine am_run hX 10 _ _ _ _ ?_
    conv => whnf
    refine ⟨vp_in_nI (by show c < 21; omega) (by decide), ?_⟩
    conv => whnf
    rw [nI_clamp (n := c) (by omega), show (v4 (wd M W) q o f (c5 (zs0 M) (2 ^ W) (fun j => red (au W op a i).1 ((au W op a i).2 j)))).1 111 c = nI S from hbc.2.2.2.2.2.2.1, e3]
    refine ⟨fun c => absurd c (nI_ge (by omega) (by omega)), fun _ => ?_⟩
    refine am_run hX 5 _ _ _ _ ?_
    conv => whnf
    refine am_cq (ct_rap (d := d) (M := wd M W) (g := zs0 M) (k := (au W op a i).1) (xs := (au W op a i).2) ⟨by omega, w8, by unfold wd; rw [mm_i1]; rfl, o2, o3, o4, o5, og.1.2.2.1⟩ hap (by omega) (by omega) hb) ?_
    rintro r M' ⟨rfl, q', o', f', rfl⟩
    refine ⟨none, rfl, ?_⟩
    rw [wd_74]
    conv => whnf
    rw [nI_1]
    exact ih _ _ _
set_option maxRecDepth 100000 in
theorem ct_runAll {n c W S a : Nat} {op : Nat → bk_X} (h : cir M n c W S op) (ha : a < 2 ^ W) (hp : ∀ j, j < S → (op j).1 < 9) : am_M (d + 6) false nm_X12_runAll [aR 108, aI (nI c), aI (nI a)] M (fun r M' => r = .inl none ∧ ∃ q o f, M' = (v4 (wd M W) q o f (c5 (zs0 M) (2 ^ W) (fun j => red (au W op a S).1 ((au W op a S).2 j))))) := by
  have h0 := h
  obtain ⟨hbk, hcc, hbc, hops, h60⟩ := h
  have hn20 := hbk.1
  have w8 := hbc.2.1
  have h8 := w256 w8
  refine ⟨rfl, rfl, rfl, fun X hX => am_run hX 11 _ _ _ _ ?_⟩
  conv => whnf
  refine ⟨vp_in_nI (by show c < 21; omega) (by decide), ?_⟩
  conv => whnf
  rw [nI_clamp (n := c) (by omega), hbc.2.2.2.2.1]
  refine am_c0 (ct_startS (d := d + 4) (w := W) (s := a) (by omega)) ?_
  have e : bs_2 M W a = v4 (wd M W) ((wd M W).2 152) ((wd M W).2 119) ((wd M W).2 118) (c5 (zs0 M) (2 ^ W) (fun j => red 0 (bas a j))) := by
    rw [v4_w]
    unfold bs_2
    exact congrArg (mm_l (wd M W) 150) (bas_c5 ha (by omega))
  rw [e]
  conv => whnf
  rw [show (300 : Int32) * nI c = nI (300 * c) from by rw [show (300 : Int32) = nI 300 from rfl, nI_mul]]
  exact ra_l5 (d := d) hX h0 hp (fun q o f => ⟨rfl, q, o, f, rfl⟩) S 0 (by omega) _ _ _
set_option maxRecDepth 100000 in
theorem io_l {P : am_Q} {X : am_X} {a : Nat} (hX : am_K d false nm_X12_isOne P X) (ha : a + 5 ≤ 320) (hP : P (.inl (some (aI (b01 (allN (fun i => decide (M.2 118 i = M.2 160 (a + i))) 5))))) M) : ∀ (m i : Nat), i + m = 5 → X 5 [some (aR 108), some (aR 160), some (aI (nI a)), some (aI (b01 (allN (fun i => decide (M.2 118 i = M.2 160 (a + i))) i))), some (aI (nI i))] [] M := by
  intro m
  induction m with
  | zero =>
    intro i hi
    have hi : i = 5 := by omega
    subst hi
    refine am_run hX 6 _ _ _ _ ?_
    conv => whnf
    refine ⟨fun _ => ?_, fun c => absurd (by decide) c⟩
    conv => whnf
    refine ⟨?_, hP⟩
    cases allN (fun i => decide (M.2 118 i = M.2 160 (a + i))) 5 <;> rfl
  | succ m ih =>
    intro i hi
    have ih := ih (i + 1) (by omega)
    simp only [allN] at ih
    refine am_run hX 3 _ _ _ _ ?_
    conv => whnf
    refine ⟨fun c => absurd c (nI_ge (a := i) (b := 5) (by omega) (by decide)), fun _ => ?_⟩
    cases hc : allN (fun i => decide (M.2 118 i = M.2 160 (a + i))) i with
    | false =>
      rw [hc, Bool.false_and] at ih
      refine am_run hX 2 _ _ _ _ ?_
      conv => whnf
      refine ⟨fun _ => ?_, fun c => absurd rfl c⟩
      refine am_run hX 4 _ _ _ _ ?_
      conv => whnf
      rw [nI_1]
      exact ih
    | true =>
      rw [hc, Bool.true_and] at ih
      refine am_run hX 2 _ _ _ _ ?_
      conv => whnf
      refine ⟨fun c => absurd c (by decide), fun _ => ?_⟩
      refine am_run hX 11 _ _ _ _ ?_
      conv => whnf
      refine ⟨vp_in_nI (by show _ < 5; omega) (by decide), ?_⟩
      conv => whnf
      rw [nI_add]
      refine ⟨vp_in_nI (by show _ < 320; omega) (by decide), ?_⟩
      conv => whnf
      rw [nI_clamp (n := i) (by omega), nI_clamp (n := a + i) (by omega), lg_0]
      refine ⟨fun c => ?_, fun c => ?_⟩
      · rw [decide_eq_false c] at ih
        refine am_run hX 4 _ _ _ _ ?_
        conv => whnf
        rw [nI_1]
        exact ih
      · rw [decide_eq_true (Decidable.byContradiction c)] at ih
        refine am_run hX 5 _ _ _ _ ?_
        conv => whnf
        rw [nI_1]
        exact ih
theorem io_e {f h : Nat → Int64} {a k l : Nat} {x y : R4} (hx : bd x) (hy : bd y) (hk : k < 2 ^ 31) (hl : l < 2 ^ 31) (hh : at5 h a y l) : allN (fun i => decide (ov f x k i = h (a + i))) 5 = true ↔ (x = y ∧ k = l) := by
  obtain ⟨h0, h1, h2, h3, h4⟩ := hh
  rw [all_iff]
  simp only [bd] at hx hy
  constructor
  · intro z
    have z0 := of_decide_eq_true (z 0 (by decide))
    have z1 := of_decide_eq_true (z 1 (by decide))
    have z2 := of_decide_eq_true (z 2 (by decide))
    have z3 := of_decide_eq_true (z 3 (by decide))
    have z4 := of_decide_eq_true (z 4 (by decide))
    rw [Nat.add_zero, h0, ov_0, lI_eq (by omega) (by omega) (by omega) (by omega)] at z0
    rw [h1, ov_1, lI_eq (by omega) (by omega) (by omega) (by omega)] at z1
    rw [h2, ov_2, lI_eq (by omega) (by omega) (by omega) (by omega)] at z2
    rw [h3, ov_3, lI_eq (by omega) (by omega) (by omega) (by omega)] at z3
    rw [h4, ov_4, lI_eq (by omega) (by omega) (by omega) (by omega)] at z4
    exact ⟨r4_e z0 z1 z2 z3, by omega⟩
  · rintro ⟨rfl, rfl⟩ i hi
    rcases (by omega : i = 0 ∨ i = 1 ∨ i = 2 ∨ i = 3 ∨ i = 4) with rfl | rfl | rfl | rfl | rfl
    · exact decide_eq_true h0.symm
    · exact decide_eq_true h1.symm
    · exact decide_eq_true h2.symm
    · exact decide_eq_true h3.symm
    · exact decide_eq_true h4.symm
set_option maxRecDepth 100000 in
theorem ct_isOne {a k l : Nat} {x y : R4} {f : Nat → Int64} (ha : a + 5 ≤ 320) (hx : bd x) (hy : bd y) (hk : k < 2 ^ 31) (hl : l < 2 ^ 31) (hh : at5 (M.2 160) a y l) : am_M (d + 1) false nm_X12_isOne [aR 108, aR 160, aI (nI a)] (mm_l M 118 (ov f x k)) (am_q1 (aI (b01 (decide (x = y ∧ k = l)))) (mm_l M 118 (ov f x k))) := by
  have e : allN (fun i => decide ((mm_l M 118 (ov f x k)).2 118 i = (mm_l M 118 (ov f x k)).2 160 (a + i))) 5 = decide (x = y ∧ k = l) := by
    rw [mm_l2, mm_lne _ 118 160 _ (by decide)]
    have := io_e (f := f) hx hy hk hl hh
    by_cases z : x = y ∧ k = l
    · rw [decide_eq_true z]
      exact this.mpr z
    · rw [decide_eq_false z]
      exact nt_f (fun q => z (this.mp q))
  refine ⟨rfl, rfl, rfl, fun X hX => am_run hX 4 _ _ _ _ ?_⟩
  conv => whnf
  exact io_l (M := mm_l M 118 (ov f x k)) hX ha (by rw [e]; exact ⟨rfl, rfl⟩) 5 0 (by omega)
set_option maxRecDepth 100000 in
theorem co_l {P : am_Q} {X : am_X} {c e a W : Nat} (hX : am_K d false nm_X12_powersOf P X) (hc : c < 21) (w5 : W ≤ 5) (hw : M.1 110 c = nI W) (hK : X 42 [some (aR 108), some (aI (nI c)), some (aI (nI e)), some (aI (nI a)), some (aI (nI (5 * 2 ^ W))), none, none, none] [] (mm_l M 160 (fun j => if j < 5 * 2 ^ W then M.2 150 j else M.2 160 j))) : ∀ (m i : Nat), i + m = 5 * 2 ^ W → X 9 [some (aR 108), some (aI (nI c)), some (aI (nI e)), some (aI (nI a)), some (aI (nI i)), none, none, none] [] (mm_l M 160 (fun j => if j < i then M.2 150 j else M.2 160 j)) := by
  have hN : 2 ^ W ≤ 32 := by
    have : 2 ^ W ≤ 2 ^ 5 := Nat.pow_le_pow_right (by decide) w5
    omega
  have e5 : (5 : Int32) <<< (nI W &&& 31) = nI (5 * 2 ^ W) := by rw [show (5 : Int32) = nI 5 from rfl, nI_shl (by omega) (by omega)]
  intro m
  induction m with
  | zero =>
    intro i hi
    have hi : i = 5 * 2 ^ W := by omega
    subst hi
    refine am_run hX 8 _ _ _ _ ?_
    conv => whnf
    refine ⟨vp_in_nI (by show c < 21; omega) (by decide), ?_⟩
    conv => whnf
    rw [nI_clamp (n := c) (by omega), show (mm_l M 160 (fun j => if j < 5 * 2 ^ W then M.2 150 j else M.2 160 j)).1 110 c = nI W from hw, e5]
    exact ⟨fun _ => hK, fun c => absurd (nI_le (by omega) (by omega)) c⟩
  | succ m ih =>
    intro i hi
    refine am_run hX 8 _ _ _ _ ?_
    conv => whnf
    refine ⟨vp_in_nI (by show c < 21; omega) (by decide), ?_⟩
    conv => whnf
    rw [nI_clamp (n := c) (by omega), show (mm_l M 160 (fun j => if j < i then M.2 150 j else M.2 160 j)).1 110 c = nI W from hw, e5]
    refine ⟨fun c => absurd c (nI_ge (by omega) (by omega)), fun _ => ?_⟩
    refine am_run hX 10 _ _ _ _ ?_
    conv => whnf
    refine ⟨vp_in_nI (by show _ < 1280; omega) (by decide), ?_⟩
    conv => whnf
    refine ⟨vp_in_nI (by show _ < 320; omega) (by decide), ?_⟩
    conv => whnf
    rw [nI_clamp (n := i) (by omega), nI_1, mm_l2, mm_ll, mm_lne _ 160 150 _ (by decide)]
    have e : vp_updL (fun j => if j < i then M.2 150 j else M.2 160 j) i (M.2 150 i) = fun j => if j < i + 1 then M.2 150 j else M.2 160 j := by
      funext j
      unfold vp_updL
      by_cases h : j = i
      · rw [if_pos h, if_pos (by omega), h]
      · rw [if_neg h]
        dsimp only
        by_cases h2 : j < i
        · rw [if_pos h2, if_pos (by omega)]
        · rw [if_neg h2, if_neg (by omega)]
    rw [e]
    exact ih (i + 1) (by omega)
/-- the same up to a power of w, at a place -/
def eqB (A B : Nat → R4 × Nat) (p : Nat) (j : Nat) : Bool := decide (t8n p (B j).1 = (A j).1 ∧ (B j).2 = (A j).2)
set_option maxRecDepth 100000 in
theorem pj_l {P : am_Q} {X : am_X} {c e a W p N : Nat} {v : Int32} {A B : Nat → R4 × Nat} {q o : Nat → Int64} (hX : am_K (d + 1) false nm_X12_powersOf P X) (w5 : W ≤ 5) (eN : N = 2 ^ W) (hp : p < 8) (hw : M.1 108 71 = nI W) (hB : ∀ j, j < N → bd (B j).1 ∧ (B j).2 < 2 ^ 31) (hA : ∀ j, j < N → bd (A j).1 ∧ (A j).2 < 2 ^ 31 ∧ at5 (M.2 160) (5 * j) (A j).1 (A j).2) (hK : ∀ f j, X 121 [some (aR 108), some (aI (nI c)), some (aI (nI e)), some (aI (nI a)), some (aI v), some (aI (nI p)), some (aI (b01 (allN (eqB A B p) N))), some (aI (nI j))] [] (v4 M q o f (c5 g N B))) : ∀ (m j : Nat), j + m = N → ∀ f, X 67 [some (aR 108), some (aI (nI c)), some (aI (nI e)), some (aI (nI a)), some (aI v), some (aI (nI p)), some (aI (b01 (allN (eqB A B p) j))), some (aI (nI j))] [] (v4 M q o f (c5 g N B)) := by
  have hN : 2 ^ W ≤ 32 := by
    have : 2 ^ W ≤ 2 ^ 5 := Nat.pow_le_pow_right (by decide) w5
    omega
  intro m
  induction m with
  | zero =>
    intro j hj f
    have hj : j = N := by omega
    subst hj
    refine am_run hX 6 _ _ _ _ ?_
    conv => whnf
    rw [show (v4 M q o f (c5 g j B)).1 108 71 = nI W from hw, sh2 W (by omega), ← eN]
    exact ⟨fun _ => hK _ _, fun c => absurd (nI_le (by omega) (by omega)) c⟩
  | succ m ih =>
    intro j hj f
    have ih := ih (j + 1) (by omega)
    have hjN : j < N := by omega
    obtain ⟨b1, b2⟩ := hB j hjN
    obtain ⟨a1, a2, a3⟩ := hA j hjN
    refine am_run hX 6 _ _ _ _ ?_
    conv => whnf
    rw [show (v4 M q o f (c5 g N B)).1 108 71 = nI W from hw, sh2 W (by omega), ← eN]
    refine ⟨fun c => absurd c (nI_ge (by omega) (by omega)), fun _ => ?_⟩
    refine am_run hX 2 _ _ _ _ ?_
    conv => whnf
    cases hc : allN (eqB A B p) j with
    | false =>
      have hf : allN (eqB A B p) N = false := nt_f fun z => by
        have h1 := (all_iff N).mp z
        have h2 := (all_iff j).mpr (fun i hi => h1 i (by omega))
        rw [hc] at h2
        exact absurd h2 (by decide)
      rw [hf] at hK
      exact ⟨fun _ => hK _ _, fun c => absurd rfl c⟩
    | true =>
      refine ⟨fun c => absurd c (by decide), fun _ => ?_⟩
      refine am_run hX 20 _ _ _ _ ?_
      conv => whnf
      rw [show (5 : Int32) = nI 5 from rfl, nI_mul]
      refine am_c0 (ct_ld150 (d := d) (by omega) (c5_5 hjN)) ?_
      conv => whnf
      refine am_c0 (ct_turn1 (d := d) hp (m7_lt hp)) ?_
      conv => whnf
      rw [show (5 : Int32) = nI 5 from rfl, nI_mul]
      refine am_c1 (ct_isOne (d := d) (M := (v4 M q o f (c5 g N B))) (by omega) (t8_bd b1 p) a1 b2 a2 a3) ?_
      rw [v4_f]
      conv => whnf
      rw [nI_1]
      simp only [allN] at ih
      rw [hc, Bool.true_and] at ih
      exact ih _
end EQR
