/-! THE CLASS'S isGates, fillColumn, isTurned, powersOver -/
def pureB (x : bk_X) : Bool := decide (x.1 < 9 ∧ x.2.2.2.2.1 = 0 ∧ x.2.2.2.2.2 = 0)
/-- a circuit's OPS, all sound, with few h -/
def cir (M : mm_M) (n c W S : Nat) (op : Nat → bk_X) : Prop := bk_iv M n ∧ c < n ∧ bk_c M c W S ∧ (∀ j, j < S → ogd W (op j) ∧ bk_o M (300 * c + j) (op j)) ∧ hcn op S ≤ 60
theorem pk_18 {W : Nat} {x : bk_X} (hW : W ≤ 8) (h : bk_w W x) : bk_p x / 2 ^ 18 = 0 ↔ (x.2.2.2.2.1 = 0 ∧ x.2.2.2.2.2 = 0) := by
  obtain ⟨h1, h2, h3, h4, h5, h6⟩ := h
  have h8 := w256 hW
  unfold bk_p
  omega
def au (W : Nat) (op : Nat → bk_X) (a : Nat) : Nat → Nat × (Nat → R4)
  | 0 => (0, bas a)
  | i + 1 => (if (op i).1 = 3 then (au W op a i).1 + 1 else (au W op a i).1, gx (op i).1 (op i).2.1 (op i).2.2.1 (op i).2.2.2.1 false (2 ^ W) (au W op a i).2)
theorem bas_n (a : Nat) : ∀ N, sI (fun i => nrm (bas a i)) N ≤ 1
  | 0 => by
    show (0 : Int) ≤ 1
    decide
  | n + 1 => by
    have key : ∀ m, (a < m → sI (fun i => nrm (bas a i)) m = 1) ∧ (m ≤ a → sI (fun i => nrm (bas a i)) m = 0) := by
      intro m
      induction m with
      | zero => exact ⟨fun h => by omega, fun _ => rfl⟩
      | succ m ih =>
        have e : sI (fun i => nrm (bas a i)) (m + 1) = sI (fun i => nrm (bas a i)) m + nrm (bas a m) := rfl
        rw [e]
        by_cases h : m = a
        · have e2 : nrm (bas a m) = 1 := by
            unfold bas
            rw [if_pos h]
            rfl
          rw [e2]
          exact ⟨fun _ => by rw [ih.2 (by omega)]; rfl, fun q => by omega⟩
        · have e2 : nrm (bas a m) = 0 := by
            unfold bas
            rw [if_neg h]
            rfl
          rw [e2]
          exact ⟨fun q => by rw [ih.1 (by omega)]; rfl, fun q => by rw [ih.2 (by omega)]; rfl⟩
    by_cases h : a < n + 1
    · rw [(key (n + 1)).1 h]
      exact Int.le_refl _
    · rw [(key (n + 1)).2 (by omega)]
      decide
theorem au_ok {W S a : Nat} {op : Nat → bk_X} (ho : ∀ j, j < S → ogd W (op j)) : ∀ i, i ≤ S → sI (fun j => nrm ((au W op a i).2 j)) (2 ^ W) ≤ 2 ^ (au W op a i).1 ∧ (au W op a i).1 ≤ hcn op i
  | 0, _ => ⟨bas_n a _, Nat.le_refl _⟩
  | i + 1, hi => by
    obtain ⟨h1, h2⟩ := au_ok (a := a) ho i (by omega)
    have hap := ogd_a (ho i (by omega))
    refine ⟨?_, ?_⟩
    · show sI (fun j => nrm (gx (op i).1 (op i).2.1 (op i).2.2.1 (op i).2.2.2.1 false (2 ^ W) (au W op a i).2 j)) (2 ^ W) ≤ 2 ^ (if (op i).1 = 3 then (au W op a i).1 + 1 else (au W op a i).1)
      rw [gx_nrm hap]
      by_cases h3 : (op i).1 = 3
      · rw [if_pos h3, if_pos h3, pw_1]
        omega
      · rw [if_neg h3, if_neg h3]
        exact h1
    · show (if (op i).1 = 3 then (au W op a i).1 + 1 else (au W op a i).1) ≤ hcn op i + (if (op i).1 = 3 then 1 else 0)
      by_cases h3 : (op i).1 = 3
      · rw [if_pos h3, if_pos h3]
        omega
      · rw [if_neg h3, if_neg h3]
        omega
theorem au_bd {W S a : Nat} {op : Nat → bk_X} (ho : ∀ j, j < S → ogd W (op j)) (h60 : hcn op S ≤ 60) {i : Nat} (hi : i ≤ S) : ∀ j, j < 2 ^ W → bd ((au W op a i).2 j) := by
  obtain ⟨h1, h2⟩ := au_ok (a := a) ho i hi
  have hm := hcn_m op i (S - i)
  rw [show i + (S - i) = S by omega] at hm
  exact aok_bd (σ := ((au W op a i).1, (au W op a i).2, 0, 0)) ⟨h1, (show 0 < 2 ^ 8 by decide)⟩ (by show (au W op a i).1 ≤ 60; omega)
theorem pp_t8 : ∀ e, e < 8 → ∀ q, q < 4 → ∀ y : R4, pp (t8n e y) ((q + e) % 4) = if (q + e) % 8 < 4 then pp y q else - pp y q := by
  intro e he q hq y
  obtain ⟨a, b, c, d⟩ := y
  rcases (by omega : e = 0 ∨ e = 1 ∨ e = 2 ∨ e = 3 ∨ e = 4 ∨ e = 5 ∨ e = 6 ∨ e = 7) with rfl | rfl | rfl | rfl | rfl | rfl | rfl | rfl <;> rcases (by omega : q = 0 ∨ q = 1 ∨ q = 2 ∨ q = 3) with rfl | rfl | rfl | rfl <;> simp [pp, t8n, t8]
theorem pp_e {x y : R4} (h : ∀ q, q < 4 → pp x q = pp y q) : x = y := r4_e (h 0 (by decide)) (h 1 (by decide)) (h 2 (by decide)) (h 3 (by decide))
def tuB (xs ys : Nat → R4) (e : Nat) (p : Nat) : Bool := decide (pp (xs (p / 4)) ((p % 4 + e) % 4) = if (p % 4 + e) % 8 < 4 then pp (ys (p / 4)) (p % 4) else - pp (ys (p / 4)) (p % 4))
theorem tu_iff {xs ys : Nat → R4} {e N : Nat} (he : e < 8) : allN (tuB xs ys e) (4 * N) = true ↔ ∀ j, j < N → xs j = t8n e (ys j) := by
  rw [all_iff]
  constructor
  · intro h j hj
    refine pp_e fun r hr => ?_
    have hq : ((r + 8 - e) % 4 + e) % 4 = r := by omega
    have h1 := h (4 * j + (r + 8 - e) % 4) (by omega)
    unfold tuB at h1
    rw [show (4 * j + (r + 8 - e) % 4) / 4 = j by omega, show (4 * j + (r + 8 - e) % 4) % 4 = (r + 8 - e) % 4 by omega, decide_eq_true_iff, ← pp_t8 e he _ (Nat.mod_lt _ (by decide)), hq] at h1
    exact h1
  · intro h i hi
    unfold tuB
    rw [decide_eq_true_iff, h _ (by omega), pp_t8 e he _ (Nat.mod_lt _ (by decide))]
theorem i128_3 : ∀ p, p < 128 → nI p &&& 3 = nI (p % 4) := by decide +kernel
theorem i128_o : ∀ p, p < 128 → ∀ r, r < 4 → (nI p &&& (-4)) ||| nI r = nI (4 * (p / 4) + r) := by decide +kernel
theorem pp_bd {x : R4} (h : bd x) {q : Nat} (hq : q < 4) : -2 ^ 61 ≤ pp x q ∧ pp x q ≤ 2 ^ 61 := by
  obtain ⟨a, b, c, d⟩ := x
  simp only [bd] at h
  rcases (by omega : q = 0 ∨ q = 1 ∨ q = 2 ∨ q = 3) with rfl | rfl | rfl | rfl
  · exact h.1
  · exact h.2.1
  · exact h.2.2.1
  · exact h.2.2.2
section EQC
variable {d : Nat} {M : mm_M} {g : Nat → Int64}
set_option maxRecDepth 100000 in
theorem ct_asks {v : Int32} : am_M (d + 1) false nm_X0_asks [aI v] M (am_q1 (aI (if v >>> (18 &&& 31) = 0 then 0 else 1)) M) := by
  refine ⟨rfl, rfl, rfl, fun X hX => am_run hX 10 _ _ _ _ ?_⟩
  conv => whnf
  refine ⟨fun c => ?_, fun c => ?_⟩
  · conv => whnf
    rw [if_pos c]
    exact ⟨rfl, rfl, rfl⟩
  · conv => whnf
    rw [if_neg c]
    exact ⟨rfl, rfl, rfl⟩
set_option maxRecDepth 100000 in
theorem ig_l {P : am_Q} {X : am_X} {n c W S : Nat} {op : Nat → bk_X} (hX : am_K (d + 3) false nm_X0_isGates P X) (h : cir M n c W S op) (hP : P (.inl (some (aI (if allN (fun j => pureB (op j)) S = true then 1 else 0)))) M) : ∀ (m i : Nat), i + m = S → allN (fun j => pureB (op j)) i = true → ∀ l, X 2 [some (aR 9), some (aI (nI c)), some (aI (nI i)), l] [] M := by
  obtain ⟨hbk, hcc, hbc, hops, _⟩ := h
  have hS300 := hbc.2.2.1
  have hn20 := hbk.1
  have w8 := hbc.2.1
  intro m
  induction m with
  | zero =>
    intro i hi ha l
    have hi : i = S := by omega
    subst hi
    refine am_run hX 12 _ _ _ _ ?_
    conv => whnf
    refine ⟨vp_in_nI (by show c < 20; omega) (by decide), ?_⟩
    conv => whnf
    rw [nI_clamp (n := c) (by omega), hbc.2.2.2.2.2.1]
    refine ⟨fun _ => ?_, fun c => absurd (nI_le (by omega) (by omega)) c⟩
    conv => whnf
    rw [if_pos ha] at hP
    exact ⟨rfl, hP⟩
  | succ m ih =>
    intro i hi ha l
    have ih := ih (i + 1) (by omega)
    obtain ⟨og, bo⟩ := hops i (by omega)
    have ow := og.1
    have hno : pureB (op i) = false → P (.inl (some (aI 0))) M := fun q => by
      rw [if_neg (fun z => by have := (all_iff S).mp z i (by omega); rw [q] at this; exact absurd this (by decide))] at hP
      exact hP
    refine am_run hX 6 _ _ _ _ ?_
    conv => whnf
    refine ⟨vp_in_nI (by show c < 20; omega) (by decide), ?_⟩
    conv => whnf
    rw [nI_clamp (n := c) (by omega), hbc.2.2.2.2.2.1]
    refine ⟨fun c => absurd c (nI_ge (by omega) (by omega)), fun _ => ?_⟩
    refine am_run hX 8 _ _ _ _ ?_
    conv => whnf
    refine am_c1 (bk_at (d := d) hbk hcc hbc (by omega)) ?_
    rw [bo.1]
    conv => whnf
    refine am_c1 (ct_asks (d := d + 2)) ?_
    have hl := bk_lt w8 ow
    have hA : nI (bk_p (op i)) >>> (18 &&& 31) = 0 ↔ ((op i).2.2.2.2.1 = 0 ∧ (op i).2.2.2.2.2 = 0) := by
      rw [show (18 : Int32) = nI 18 from rfl, nI_sh (by omega) 18 (by decide), show (0 : Int32) = nI 0 from rfl, nI_eq (by have : bk_p (op i) / 2 ^ 18 ≤ bk_p (op i) := Nat.div_le_self _ _; omega) (by decide), pk_18 w8 ow]
    by_cases hq : (op i).2.2.2.2.1 = 0 ∧ (op i).2.2.2.2.2 = 0
    · rw [if_pos (hA.mpr hq)]
      conv => whnf
      refine ⟨fun c => absurd rfl c, fun _ => ?_⟩
      refine am_run hX 4 _ _ _ _ ?_
      conv => whnf
      refine am_c1 (ct_kind (d := d + 2)) ?_
      rw [bk_k w8 ow]
      conv => whnf
      by_cases h9 : (op i).1 < 9
      · refine ⟨fun _ => ?_, fun c => absurd (nI_lt (a := (op i).1) (b := 9) h9 (by decide)) c⟩
        refine am_run hX 2 _ _ _ _ ?_
        conv => whnf
        rw [nI_1]
        exact ih (by simp only [allN]; rw [ha, show pureB (op i) = true from decide_eq_true ⟨h9, hq⟩]; rfl) _
      · have hk10 := ow.1
        refine ⟨fun c => absurd c (nI_nlt (a := (op i).1) (b := 9) (by omega) (by omega)), fun _ => ?_⟩
        refine am_run hX 3 _ _ _ _ ?_
        conv => whnf
        exact ⟨rfl, hno (decide_eq_false fun z => h9 z.1)⟩
    · rw [if_neg (fun z => hq (hA.mp z))]
      conv => whnf
      refine ⟨fun _ => ?_, fun c => absurd (by decide) c⟩
      refine am_run hX 3 _ _ _ _ ?_
      conv => whnf
      exact ⟨rfl, hno (decide_eq_false fun z => hq z.2)⟩
set_option maxRecDepth 100000 in
theorem ct_isGates {n c W S : Nat} {op : Nat → bk_X} (h : cir M n c W S op) : am_M (d + 4) false nm_X0_isGates [aR 9, aI (nI c)] M (am_q1 (aI (if allN (fun j => pureB (op j)) S = true then 1 else 0)) M) := by
  refine ⟨rfl, rfl, rfl, fun X hX => am_run hX 2 _ _ _ _ ?_⟩
  conv => whnf
  exact ig_l hX h ⟨rfl, rfl⟩ S 0 (by omega) rfl _
set_option maxRecDepth 100000 in
theorem ip_l {P : am_Q} {X : am_X} {n c W S : Nat} {op : Nat → bk_X} (hX : am_K d false nm_X12_isPure P X) (h : cir M n c W S op) (hP : P (.inl (some (aI (if allN (fun j => pureB (op j)) S = true then 1 else 0)))) M) : ∀ (m i : Nat), i + m = S → allN (fun j => pureB (op j)) i = true → X 6 [some (aR 108), some (aI (nI c)), some (aI (nI (300 * c + i)))] [] M := by
  obtain ⟨hbk, hcc, hbc, hops, _⟩ := h
  have hS300 := hbc.2.2.1
  have hn20 := hbk.1
  have w8 := hbc.2.1
  have e3 : (300 : Int32) * nI c + nI S = nI (300 * c + S) := by rw [show (300 : Int32) = nI 300 from rfl, nI_mul, nI_add]
  intro m
  induction m with
  | zero =>
    intro i hi ha
    have hi : i = S := by omega
    subst hi
    refine am_run hX 16 _ _ _ _ ?_
    conv => whnf
    refine ⟨vp_in_nI (by show c < 21; omega) (by decide), ?_⟩
    conv => whnf
    rw [nI_clamp (n := c) (by omega), hbc.2.2.2.2.2.2.1, e3]
    refine ⟨fun _ => ?_, fun c => absurd (nI_le (by omega) (by omega)) c⟩
    conv => whnf
    rw [if_pos ha] at hP
    exact ⟨rfl, hP⟩
  | succ m ih =>
    intro i hi ha
    have ih := ih (i + 1) (by omega)
    obtain ⟨og, o1', o2, o3, o4, o5, o6, o7⟩ := hops i (by omega)
    have ow := og.1
    obtain ⟨k1, k2, k3, k4, k5, k6⟩ := ow
    have hno : pureB (op i) = false → P (.inl (some (aI 0))) M := fun q => by
      rw [if_neg (fun z => by have := (all_iff S).mp z i (by omega); rw [q] at this; exact absurd this (by decide))] at hP
      exact hP
    refine am_run hX 10 _ _ _ _ ?_
    conv => whnf
    refine ⟨vp_in_nI (by show c < 21; omega) (by decide), ?_⟩
    conv => whnf
    rw [nI_clamp (n := c) (by omega), hbc.2.2.2.2.2.2.1, e3]
    refine ⟨fun c => absurd c (nI_ge (by omega) (by omega)), fun _ => ?_⟩
    refine am_run hX 6 _ _ _ _ ?_
    conv => whnf
    refine ⟨vp_in_nI (by show _ < 6300; omega) (by decide), ?_⟩
    conv => whnf
    rw [nI_clamp (n := 300 * c + i) (by omega), o2]
    by_cases h9 : (op i).1 < 9
    · refine ⟨fun c => absurd c (nI_ge (a := (op i).1) (b := 9) h9 (by decide)), fun _ => ?_⟩
      refine am_run hX 5 _ _ _ _ ?_
      conv => whnf
      refine ⟨vp_in_nI (by show _ < 6300; omega) (by decide), ?_⟩
      conv => whnf
      rw [nI_clamp (n := 300 * c + i) (by omega), o6, show (0 : Int32) = nI 0 from rfl, nI_eq (by omega) (by decide)]
      refine ⟨fun q => ?_, fun q => ?_⟩
      · refine am_run hX 3 _ _ _ _ ?_
        conv => whnf
        exact ⟨rfl, hno (decide_eq_false fun z => q z.2.1)⟩
      · have q : (op i).2.2.2.2.1 = 0 := Decidable.byContradiction q
        refine am_run hX 5 _ _ _ _ ?_
        conv => whnf
        refine ⟨vp_in_nI (by show _ < 6300; omega) (by decide), ?_⟩
        conv => whnf
        rw [nI_clamp (n := 300 * c + i) (by omega), o7, show (0 : Int32) = nI 0 from rfl, nI_eq (by omega) (by decide)]
        refine ⟨fun q2 => ?_, fun q2 => ?_⟩
        · refine am_run hX 2 _ _ _ _ ?_
          conv => whnf
          rw [nI_1]
          exact ih (by simp only [allN]; rw [ha, show pureB (op i) = true from decide_eq_true ⟨h9, q, q2⟩]; rfl)
        · refine am_run hX 3 _ _ _ _ ?_
          conv => whnf
          exact ⟨rfl, hno (decide_eq_false fun z => q2 z.2.2)⟩
    · refine ⟨fun _ => ?_, fun c => absurd (nI_le (a := 9) (by omega) (by omega)) c⟩
      refine am_run hX 3 _ _ _ _ ?_
      conv => whnf
      exact ⟨rfl, hno (decide_eq_false fun z => h9 z.1)⟩
set_option maxRecDepth 100000 in
theorem ct_isPure {n c W S : Nat} {op : Nat → bk_X} (h : cir M n c W S op) : am_M (d + 1) false nm_X12_isPure [aR 108, aI (nI c)] M (am_q1 (aI (if allN (fun j => pureB (op j)) S = true then 1 else 0)) M) := by
  refine ⟨rfl, rfl, rfl, fun X hX => am_run hX 4 _ _ _ _ ?_⟩
  conv => whnf
  rw [show (300 : Int32) * nI c = nI (300 * c) from by rw [show (300 : Int32) = nI 300 from rfl, nI_mul]]
  exact ip_l hX h ⟨rfl, rfl⟩ S 0 (by omega) rfl
set_option maxRecDepth 100000 in
theorem fc_l35 {P : am_Q} {X : am_X} {n c W S a : Nat} {op : Nat → bk_X} (hX : am_K (d + 4) false nm_X11_fillColumn P X) (h : cir M n c W S op) (w5 : W ≤ 5) (hp : ∀ j, j < S → (op j).1 < 9) (hK : X 55 [some (aR 0), some (aR 33), some (aI (nI c)), some (aI (nI a)), some (aI (nI S))] [] (mm_l (mm_i M 33 (upd (upd (M.1 33) 2 (nI (2 ^ W))) 3 (nI (au W op a S).1))) 35 (cq (fun j => if j < 128 then 0 else M.2 35 j) (2 ^ W) (au W op a S).2))) : ∀ (m i : Nat), i + m = S → X 19 [some (aR 0), some (aR 33), some (aI (nI c)), some (aI (nI a)), some (aI (nI i))] [] (mm_l (mm_i M 33 (upd (upd (M.1 33) 2 (nI (2 ^ W))) 3 (nI (au W op a i).1))) 35 (cq (fun j => if j < 128 then 0 else M.2 35 j) (2 ^ W) (au W op a i).2)) := by
  obtain ⟨hbk, hcc, hbc, hops, _⟩ := h
  have hS300 := hbc.2.2.1
  have hn20 := hbk.1
  have w8 := hbc.2.1
  intro m
  induction m with
  | zero =>
    intro i hi
    have hi : i = S := by omega
    subst hi
    refine am_run hX 7 _ _ _ _ ?_
    conv => whnf
    refine ⟨vp_in_nI (by show c < 20; omega) (by decide), ?_⟩
    conv => whnf
    rw [nI_clamp (n := c) (by omega), show (mm_l (mm_i M 33 (upd (upd (M.1 33) 2 (nI (2 ^ W))) 3 (nI (au W op a i).1))) 35 (cq (fun j => if j < 128 then 0 else M.2 35 j) (2 ^ W) (au W op a i).2)).1 11 c = nI i from hbc.2.2.2.2.2.1]
    exact ⟨fun _ => hK, fun c => absurd (nI_le (by omega) (by omega)) c⟩
  | succ m ih =>
    intro i hi
    have ih := ih (i + 1) (by omega)
    obtain ⟨og, bo⟩ := hops i (by omega)
    have ow := og.1
    have hap := ogd_a og
    have h9 := hp i (by omega)
    refine am_run hX 7 _ _ _ _ ?_
    conv => whnf
    refine ⟨vp_in_nI (by show c < 20; omega) (by decide), ?_⟩
    conv => whnf
    rw [nI_clamp (n := c) (by omega), show (mm_l (mm_i M 33 (upd (upd (M.1 33) 2 (nI (2 ^ W))) 3 (nI (au W op a i).1))) 35 (cq (fun j => if j < 128 then 0 else M.2 35 j) (2 ^ W) (au W op a i).2)).1 11 c = nI S from hbc.2.2.2.2.2.1]
    refine ⟨fun c => absurd c (nI_ge (by omega) (by omega)), fun _ => ?_⟩
    refine am_run hX 11 _ _ _ _ ?_
    conv => whnf
    refine am_c1 (bk_at (d := d + 1) (M := (mm_l (mm_i M 33 (upd (upd (M.1 33) 2 (nI (2 ^ W))) 3 (nI (au W op a i).1))) 35 (cq (fun j => if j < 128 then 0 else M.2 35 j) (2 ^ W) (au W op a i).2))) (n := n) (c := c) (W := W) (S := S) hbk hcc hbc (by omega)) ?_
    rw [show (mm_l (mm_i M 33 (upd (upd (M.1 33) 2 (nI (2 ^ W))) 3 (nI (au W op a i).1))) 35 (cq (fun j => if j < 128 then 0 else M.2 35 j) (2 ^ W) (au W op a i).2)).1 10 (300 * c + i) = nI (bk_p (op i)) from bo.1]
    conv => whnf
    by_cases h3 : (op i).1 = 3
    · have key := ct_apH35 (d := d + 1) (M := mm_i M 33 (upd (upd (M.1 33) 2 (nI (2 ^ W))) 3 (nI (au W op a i).1))) (g := (fun j => if j < 128 then 0 else M.2 35 j)) (sh := 0) (mi := false) (xs := (au W op a i).2) w5 w8 ow (by rw [mm_i1]; rfl) (by rw [Nat.pow_zero, Nat.mul_one]; exact hap) h3 (by decide)
      rw [Nat.pow_zero, Nat.mul_one, Nat.add_zero, Nat.add_zero] at key
      refine am_c0 key ?_
      conv => whnf
      rw [nI_1, mm_i1, upd_two, mm_ii, show upd (upd (M.1 33) 2 (nI (2 ^ W))) 3 (nI (au W op a i).1) 3 + 1 = nI ((au W op a i).1 + 1) from nI_1 _]
      have e : (au W op a (i + 1)).1 = (au W op a i).1 + 1 := if_pos h3
      rw [e] at ih
      exact ih
    · have key := ct_apN35 (d := d) (M := mm_i M 33 (upd (upd (M.1 33) 2 (nI (2 ^ W))) 3 (nI (au W op a i).1))) (g := (fun j => if j < 128 then 0 else M.2 35 j)) (sh := 0) (mi := false) (xs := (au W op a i).2) w5 w8 ow (by rw [mm_i1]; rfl) (by rw [Nat.pow_zero, Nat.mul_one]; exact hap) (by omega) h3 (by decide)
      rw [Nat.pow_zero, Nat.mul_one, Nat.add_zero, Nat.add_zero] at key
      refine am_c0 key ?_
      conv => whnf
      rw [nI_1]
      have e : (au W op a (i + 1)).1 = (au W op a i).1 := if_neg h3
      rw [e] at ih
      exact ih
set_option maxRecDepth 100000 in
theorem ct_fillC35 {n c W S a : Nat} {op : Nat → bk_X} (h : cir M n c W S op) (w5 : W ≤ 5) (ha : a < 2 ^ W) (hp : ∀ j, j < S → (op j).1 < 9) : am_M (d + 5) false nm_X11_fillColumn [aR 0, aR 33, aI (nI c), aI (nI a)] M (am_q0 (mm_l (mm_i M 33 (upd (upd (M.1 33) 2 (nI (2 ^ W))) 3 (nI (lowA (2 ^ W) (au W op a S).1 (au W op a S).2).1))) 35 (cq (fun j => if j < 128 then 0 else M.2 35 j) (2 ^ W) (lowA (2 ^ W) (au W op a S).1 (au W op a S).2).2))) := by
  have h0 := h
  obtain ⟨hbk, hcc, hbc, hops, h60⟩ := h
  have hn20 := hbk.1
  have hN : 2 ^ W ≤ 32 := by
    have : 2 ^ W ≤ 2 ^ 5 := Nat.pow_le_pow_right (by decide) w5
    omega
  obtain ⟨_, hk⟩ := au_ok (a := a) (fun j hj => (hops j hj).1) S (Nat.le_refl _)
  have hb := au_bd (a := a) (fun j hj => (hops j hj).1) h60 (Nat.le_refl S)
  refine ⟨rfl, rfl, rfl, fun X hX => am_run hX 12 _ _ _ _ ?_⟩
  conv => whnf
  refine ⟨vp_in_nI (by show c < 20; omega) (by decide), ?_⟩
  conv => whnf
  rw [nI_clamp (n := c) (by omega), hbc.2.2.2.1, sh2 W (by omega)]
  refine am_c0 (ct_set35 (d := d + 2) ha (by omega)) ?_
  conv => whnf
  refine fc_l35 (d := d) hX h0 w5 hp ?_ S 0 (by omega)
  refine am_run hX 10 _ _ _ _ ?_
  conv => whnf
  refine am_c0 (ct_lower35 (d := d + 2) hN (by omega) hb) ?_
  conv => whnf
  exact ⟨trivial, rfl, rfl⟩
set_option maxRecDepth 100000 in
theorem fc_l38 {P : am_Q} {X : am_X} {n c W S a : Nat} {op : Nat → bk_X} (hX : am_K (d + 4) false nm_X11_fillColumn P X) (h : cir M n c W S op) (w5 : W ≤ 5) (hp : ∀ j, j < S → (op j).1 < 9) (hK : X 55 [some (aR 0), some (aR 36), some (aI (nI c)), some (aI (nI a)), some (aI (nI S))] [] (mm_l (mm_i M 36 (upd (upd (M.1 36) 2 (nI (2 ^ W))) 3 (nI (au W op a S).1))) 38 (cq (fun j => if j < 128 then 0 else M.2 38 j) (2 ^ W) (au W op a S).2))) : ∀ (m i : Nat), i + m = S → X 19 [some (aR 0), some (aR 36), some (aI (nI c)), some (aI (nI a)), some (aI (nI i))] [] (mm_l (mm_i M 36 (upd (upd (M.1 36) 2 (nI (2 ^ W))) 3 (nI (au W op a i).1))) 38 (cq (fun j => if j < 128 then 0 else M.2 38 j) (2 ^ W) (au W op a i).2)) := by
  obtain ⟨hbk, hcc, hbc, hops, _⟩ := h
  have hS300 := hbc.2.2.1
  have hn20 := hbk.1
  have w8 := hbc.2.1
  intro m
  induction m with
  | zero =>
    intro i hi
    have hi : i = S := by omega
    subst hi
    refine am_run hX 7 _ _ _ _ ?_
    conv => whnf
    refine ⟨vp_in_nI (by show c < 20; omega) (by decide), ?_⟩
    conv => whnf
    rw [nI_clamp (n := c) (by omega), show (mm_l (mm_i M 36 (upd (upd (M.1 36) 2 (nI (2 ^ W))) 3 (nI (au W op a i).1))) 38 (cq (fun j => if j < 128 then 0 else M.2 38 j) (2 ^ W) (au W op a i).2)).1 11 c = nI i from hbc.2.2.2.2.2.1]
    exact ⟨fun _ => hK, fun c => absurd (nI_le (by omega) (by omega)) c⟩
  | succ m ih =>
    intro i hi
    have ih := ih (i + 1) (by omega)
    obtain ⟨og, bo⟩ := hops i (by omega)
    have ow := og.1
    have hap := ogd_a og
    have h9 := hp i (by omega)
    refine am_run hX 7 _ _ _ _ ?_
    conv => whnf
    refine ⟨vp_in_nI (by show c < 20; omega) (by decide), ?_⟩
    conv => whnf
    rw [nI_clamp (n := c) (by omega), show (mm_l (mm_i M 36 (upd (upd (M.1 36) 2 (nI (2 ^ W))) 3 (nI (au W op a i).1))) 38 (cq (fun j => if j < 128 then 0 else M.2 38 j) (2 ^ W) (au W op a i).2)).1 11 c = nI S from hbc.2.2.2.2.2.1]
    refine ⟨fun c => absurd c (nI_ge (by omega) (by omega)), fun _ => ?_⟩
    refine am_run hX 11 _ _ _ _ ?_
    conv => whnf
    refine am_c1 (bk_at (d := d + 1) (M := (mm_l (mm_i M 36 (upd (upd (M.1 36) 2 (nI (2 ^ W))) 3 (nI (au W op a i).1))) 38 (cq (fun j => if j < 128 then 0 else M.2 38 j) (2 ^ W) (au W op a i).2))) (n := n) (c := c) (W := W) (S := S) hbk hcc hbc (by omega)) ?_
    rw [show (mm_l (mm_i M 36 (upd (upd (M.1 36) 2 (nI (2 ^ W))) 3 (nI (au W op a i).1))) 38 (cq (fun j => if j < 128 then 0 else M.2 38 j) (2 ^ W) (au W op a i).2)).1 10 (300 * c + i) = nI (bk_p (op i)) from bo.1]
    conv => whnf
    by_cases h3 : (op i).1 = 3
    · have key := ct_apH38 (d := d + 1) (M := mm_i M 36 (upd (upd (M.1 36) 2 (nI (2 ^ W))) 3 (nI (au W op a i).1))) (g := (fun j => if j < 128 then 0 else M.2 38 j)) (sh := 0) (mi := false) (xs := (au W op a i).2) w5 w8 ow (by rw [mm_i1]; rfl) (by rw [Nat.pow_zero, Nat.mul_one]; exact hap) h3 (by decide)
      rw [Nat.pow_zero, Nat.mul_one, Nat.add_zero, Nat.add_zero] at key
      refine am_c0 key ?_
      conv => whnf
      rw [nI_1, mm_i1, upd_two, mm_ii, show upd (upd (M.1 36) 2 (nI (2 ^ W))) 3 (nI (au W op a i).1) 3 + 1 = nI ((au W op a i).1 + 1) from nI_1 _]
      have e : (au W op a (i + 1)).1 = (au W op a i).1 + 1 := if_pos h3
      rw [e] at ih
      exact ih
    · have key := ct_apN38 (d := d) (M := mm_i M 36 (upd (upd (M.1 36) 2 (nI (2 ^ W))) 3 (nI (au W op a i).1))) (g := (fun j => if j < 128 then 0 else M.2 38 j)) (sh := 0) (mi := false) (xs := (au W op a i).2) w5 w8 ow (by rw [mm_i1]; rfl) (by rw [Nat.pow_zero, Nat.mul_one]; exact hap) (by omega) h3 (by decide)
      rw [Nat.pow_zero, Nat.mul_one, Nat.add_zero, Nat.add_zero] at key
      refine am_c0 key ?_
      conv => whnf
      rw [nI_1]
      have e : (au W op a (i + 1)).1 = (au W op a i).1 := if_neg h3
      rw [e] at ih
      exact ih
set_option maxRecDepth 100000 in
theorem ct_fillC38 {n c W S a : Nat} {op : Nat → bk_X} (h : cir M n c W S op) (w5 : W ≤ 5) (ha : a < 2 ^ W) (hp : ∀ j, j < S → (op j).1 < 9) : am_M (d + 5) false nm_X11_fillColumn [aR 0, aR 36, aI (nI c), aI (nI a)] M (am_q0 (mm_l (mm_i M 36 (upd (upd (M.1 36) 2 (nI (2 ^ W))) 3 (nI (lowA (2 ^ W) (au W op a S).1 (au W op a S).2).1))) 38 (cq (fun j => if j < 128 then 0 else M.2 38 j) (2 ^ W) (lowA (2 ^ W) (au W op a S).1 (au W op a S).2).2))) := by
  have h0 := h
  obtain ⟨hbk, hcc, hbc, hops, h60⟩ := h
  have hn20 := hbk.1
  have hN : 2 ^ W ≤ 32 := by
    have : 2 ^ W ≤ 2 ^ 5 := Nat.pow_le_pow_right (by decide) w5
    omega
  obtain ⟨_, hk⟩ := au_ok (a := a) (fun j hj => (hops j hj).1) S (Nat.le_refl _)
  have hb := au_bd (a := a) (fun j hj => (hops j hj).1) h60 (Nat.le_refl S)
  refine ⟨rfl, rfl, rfl, fun X hX => am_run hX 12 _ _ _ _ ?_⟩
  conv => whnf
  refine ⟨vp_in_nI (by show c < 20; omega) (by decide), ?_⟩
  conv => whnf
  rw [nI_clamp (n := c) (by omega), hbc.2.2.2.1, sh2 W (by omega)]
  refine am_c0 (ct_set38 (d := d + 2) ha (by omega)) ?_
  conv => whnf
  refine fc_l38 (d := d) hX h0 w5 hp ?_ S 0 (by omega)
  refine am_run hX 10 _ _ _ _ ?_
  conv => whnf
  refine am_c0 (ct_lower38 (d := d + 2) hN (by omega) hb) ?_
  conv => whnf
  exact ⟨trivial, rfl, rfl⟩
set_option maxRecDepth 100000 in
theorem it_l {P : am_Q} {X : am_X} {N e : Nat} {xs ys : Nat → R4} (hX : am_K d false nm_X6_isTurned P X) (hN : N ≤ 32) (he : e < 8) (hs : M.1 33 2 = nI N) (hx : ∀ j, j < N → bd (xs j) ∧ ∀ q, q < 4 → M.2 35 (4 * j + q) = lI (pp (xs j) q)) (hy : ∀ j, j < N → bd (ys j) ∧ ∀ q, q < 4 → M.2 38 (4 * j + q) = lI (pp (ys j) q)) (hP : P (.inl (some (aI (if allN (tuB xs ys e) (4 * N) = true then 1 else 0)))) M) : ∀ (m p : Nat), p + m = 4 * N → allN (tuB xs ys e) p = true → ∀ l4 l5 l6, X 2 [some (aR 33), some (aR 36), some (aI (nI e)), some (aI (nI p)), l4, l5, l6] [] M := by
  intro m
  induction m with
  | zero =>
    intro p hp ha l4 l5 l6
    have hp : p = 4 * N := by omega
    subst hp
    refine am_run hX 12 _ _ _ _ ?_
    conv => whnf
    rw [hs, show (4 : Int32) = nI 4 from rfl, nI_mul]
    refine ⟨fun _ => ?_, fun c => absurd (nI_le (by omega) (by omega)) c⟩
    conv => whnf
    rw [if_pos ha] at hP
    exact ⟨rfl, hP⟩
  | succ m ih =>
    intro p hp ha l4 l5 l6
    have ih := ih (p + 1) (by omega)
    have hj : p / 4 < N := by omega
    have hq : p % 4 < 4 := Nat.mod_lt _ (by decide)
    have hr : (p % 4 + e) % 8 % 4 < 4 := Nat.mod_lt _ (by decide)
    have er : (p % 4 + e) % 8 % 4 = (p % 4 + e) % 4 := by omega
    obtain ⟨bx, rx⟩ := hx (p / 4) hj
    obtain ⟨by', ry⟩ := hy (p / 4) hj
    have rx := rx _ hr
    have ry := ry _ hq
    rw [show 4 * (p / 4) + p % 4 = p by omega] at ry
    obtain ⟨x1, x2⟩ := pp_bd bx hr
    obtain ⟨y1, y2⟩ := pp_bd by' hq
    have fin : ∀ v, (-2 ^ 61 ≤ v ∧ v ≤ 2 ^ 61) → v = (if (p % 4 + e) % 8 < 4 then pp (ys (p / 4)) (p % 4) else - pp (ys (p / 4)) (p % 4)) → ∀ l4 l5 l6, X 58 [some (aR 33), some (aR 36), some (aI (nI e)), some (aI (nI p)), l4, l5, l6] [aJ (lI v), aJ (lI (pp (xs (p / 4)) ((p % 4 + e) % 8 % 4)))] M := by
      intro v hv ev l4 l5 l6
      refine am_run hX 2 _ _ _ _ ?_
      conv => whnf
      rw [lg_0, lI_eq (by omega) (by omega) (by omega) (by omega)]
      refine ⟨fun c => ?_, fun c => ?_⟩
      · refine am_run hX 2 _ _ _ _ ?_
        conv => whnf
        rw [nI_1]
        refine ih ?_ _ _ _
        simp only [allN]
        rw [ha, show tuB xs ys e p = true from decide_eq_true (by rw [← ev, ← er]; exact c)]
        rfl
      · refine am_run hX 3 _ _ _ _ ?_
        conv => whnf
        rw [if_neg (fun z => by
          have := (all_iff (4 * N)).mp z p (by omega)
          unfold tuB at this
          rw [decide_eq_true_iff, ← ev, ← er] at this
          exact c this)] at hP
        exact ⟨rfl, hP⟩
    refine am_run hX 6 _ _ _ _ ?_
    conv => whnf
    rw [hs, show (4 : Int32) = nI 4 from rfl, nI_mul]
    refine ⟨fun c => absurd c (nI_ge (by omega) (by omega)), fun _ => ?_⟩
    refine am_run hX 26 _ _ _ _ ?_
    conv => whnf
    refine ⟨vp_in_nI (by show _ < 128; omega) (by decide), ?_⟩
    conv => whnf
    rw [i128_3 p (by omega), nI_add, nI_m7, a3 _ (by omega), i128_o p (by omega) _ hr]
    refine ⟨vp_in_nI (by show _ < 128; omega) (by decide), ?_⟩
    conv => whnf
    rw [nI_clamp (n := p) (by omega), nI_clamp (n := 4 * (p / 4) + (p % 4 + e) % 8 % 4) (by omega), rx, ry]
    by_cases h4 : (p % 4 + e) % 8 < 4
    · refine ⟨fun c => absurd c (nI_ge (b := 4) h4 (by decide)), fun _ => ?_⟩
      refine am_run hX 2 _ _ _ _ ?_
      conv => whnf
      exact fin _ ⟨y1, y2⟩ (by rw [if_pos h4]) _ _ _
    · refine ⟨fun _ => ?_, fun c => absurd (nI_le (a := 4) (by omega) (by omega)) c⟩
      refine am_run hX 2 _ _ _ _ ?_
      conv => whnf
      rw [lI_neg]
      exact fin _ ⟨by omega, by omega⟩ (by rw [if_neg h4]) _ _ _
set_option maxRecDepth 100000 in
theorem ct_isTurned {N e : Nat} {xs ys : Nat → R4} (hN : N ≤ 32) (he : e < 8) (hs : M.1 33 2 = nI N) (hx : ∀ j, j < N → bd (xs j) ∧ ∀ q, q < 4 → M.2 35 (4 * j + q) = lI (pp (xs j) q)) (hy : ∀ j, j < N → bd (ys j) ∧ ∀ q, q < 4 → M.2 38 (4 * j + q) = lI (pp (ys j) q)) : am_M (d + 1) false nm_X6_isTurned [aR 33, aR 36, aI (nI e)] M (am_q1 (aI (if allN (tuB xs ys e) (4 * N) = true then 1 else 0)) M) := by
  refine ⟨rfl, rfl, rfl, fun X hX => am_run hX 2 _ _ _ _ ?_⟩
  conv => whnf
  exact it_l hX hN he hs hx hy ⟨rfl, rfl⟩ (4 * N) 0 (by omega) rfl _ _ _
/-- those of the powers among am by which it turns -/
def pvw (T : Nat → Bool) (am : Nat) : Nat → Nat
  | 0 => 0
  | e + 1 => if am / 2 ^ e % 2 = 1 ∧ T e = true then pvw T am e ||| 2 ^ e else pvw T am e
theorem pvw_lt (T : Nat → Bool) (am : Nat) : ∀ e, e ≤ 8 → pvw T am e < 2 ^ 8
  | 0, _ => by
    show 0 < 2 ^ 8
    decide
  | e + 1, h => by
    simp only [pvw]
    by_cases c : am / 2 ^ e % 2 = 1 ∧ T e = true
    · rw [if_pos c]
      exact or_lt (pvw_lt T am e (by omega)) (Nat.pow_lt_pow_right (by decide) (by omega))
    · rw [if_neg c]
      exact pvw_lt T am e (by omega)
set_option maxRecDepth 100000 in
theorem po_l {P : am_Q} {X : am_X} {N k am : Nat} {xs ys : Nat → R4} (hX : am_K (d + 1) false nm_X6_powersOver P X) (hN : N ≤ 32) (ham : am < 256) (hk : M.1 33 3 = nI k) (hk2 : M.1 36 3 = nI k) (hs : M.1 33 2 = nI N) (hx : ∀ j, j < N → bd (xs j) ∧ ∀ q, q < 4 → M.2 35 (4 * j + q) = lI (pp (xs j) q)) (hy : ∀ j, j < N → bd (ys j) ∧ ∀ q, q < 4 → M.2 38 (4 * j + q) = lI (pp (ys j) q)) (hP : P (.inl (some (aI (nI (pvw (fun e => allN (tuB xs ys e) (4 * N)) am 8))))) M) : ∀ (m e : Nat), e + m = 8 → X 5 [some (aR 33), some (aR 36), some (aI (nI am)), some (aI (nI (pvw (fun e => allN (tuB xs ys e) (4 * N)) am e))), some (aI (nI e))] [] M := by
  intro m
  induction m with
  | zero =>
    intro e he
    have he : e = 8 := by omega
    subst he
    refine am_run hX 6 _ _ _ _ ?_
    conv => whnf
    refine ⟨fun _ => ?_, fun c => absurd (by decide) c⟩
    conv => whnf
    exact ⟨trivial, hP⟩
  | succ m ih =>
    intro e he
    have ih := ih (e + 1) (by omega)
    simp only [pvw] at ih
    refine am_run hX 3 _ _ _ _ ?_
    conv => whnf
    refine ⟨fun c => absurd c (nI_ge (a := e) (b := 8) (by omega) (by decide)), fun _ => ?_⟩
    refine am_run hX 5 _ _ _ _ ?_
    conv => whnf
    rw [hk, hk2]
    refine ⟨fun c => absurd rfl c, fun _ => ?_⟩
    refine am_run hX 6 _ _ _ _ ?_
    conv => whnf
    rw [nI_sh (by omega) e (by omega), nI_m1, show (0 : Int32) = nI 0 from rfl, nI_eq (by omega) (by decide)]
    refine ⟨fun c => ?_, fun c => ?_⟩
    · refine am_run hX 2 _ _ _ _ ?_
      conv => whnf
      rw [nI_1]
      rw [if_neg (fun z => by omega)] at ih
      exact ih
    · refine am_run hX 5 _ _ _ _ ?_
      conv => whnf
      refine am_c1 (ct_isTurned (d := d) hN (by omega) hs hx hy) ?_
      by_cases hT : allN (tuB xs ys e) (4 * N) = true
      · rw [if_pos hT]
        conv => whnf
        refine ⟨fun c => absurd c (by decide), fun _ => ?_⟩
        refine am_run hX 8 _ _ _ _ ?_
        conv => whnf
        rw [sh2 e (by omega), nI_or, nI_1]
        rw [if_pos ⟨by omega, hT⟩] at ih
        exact ih
      · rw [if_neg hT]
        conv => whnf
        refine ⟨fun _ => ?_, fun c => absurd rfl c⟩
        refine am_run hX 2 _ _ _ _ ?_
        conv => whnf
        rw [nI_1]
        rw [if_neg (fun z => hT z.2)] at ih
        exact ih
set_option maxRecDepth 100000 in
theorem ct_powers {N k l am : Nat} {xs ys : Nat → R4} (hN : N ≤ 32) (ham : am < 256) (hk3 : k < 2 ^ 30) (hl3 : l < 2 ^ 30) (hk : M.1 33 3 = nI k) (hk2 : M.1 36 3 = nI l) (hs : M.1 33 2 = nI N) (hx : ∀ j, j < N → bd (xs j) ∧ ∀ q, q < 4 → M.2 35 (4 * j + q) = lI (pp (xs j) q)) (hy : ∀ j, j < N → bd (ys j) ∧ ∀ q, q < 4 → M.2 38 (4 * j + q) = lI (pp (ys j) q)) : am_M (d + 2) false nm_X6_powersOver [aR 33, aR 36, aI (nI am)] M (am_q1 (aI (nI (if k = l then pvw (fun e => allN (tuB xs ys e) (4 * N)) am 8 else 0))) M) := by
  refine ⟨rfl, rfl, rfl, fun X hX => am_run hX 4 _ _ _ _ ?_⟩
  conv => whnf
  by_cases e : k = l
  · rw [if_pos e] at hX
    subst e
    exact po_l hX hN ham hk hk2 hs hx hy ⟨rfl, rfl⟩ 8 0 (by omega)
  · rw [if_neg e] at hX
    refine am_run hX 20 _ _ _ _ ?_
    conv => whnf
    refine ⟨fun c => absurd c (by decide), fun _ => ?_⟩
    conv => whnf
    rw [hk, hk2, nI_eq (by omega) (by omega)]
    refine ⟨fun _ => ?_, fun c => absurd e c⟩
    conv => whnf
    exact ⟨trivial, rfl, rfl⟩
end EQC
