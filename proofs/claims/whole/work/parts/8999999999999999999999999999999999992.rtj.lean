/-! ROUTE: the class's places -/
def pk8 : List Nat → Nat
  | [] => 0
  | x :: p => x + 8 * pk8 p
theorem pk8_l : ∀ (p : List Nat), (∀ x ∈ p, x < 8) → pk8 p < 8 ^ p.length
  | [], _ => Nat.one_pos
  | x :: p, h => by
    have := pk8_l p (fun y hy => h y (List.mem_cons_of_mem _ hy))
    have hx := h x List.mem_cons_self
    show x + 8 * pk8 p < 8 ^ (p.length + 1)
    rw [Nat.pow_succ]
    omega
theorem pk8_a : ∀ (u v : List Nat), pk8 (u ++ v) = pk8 u + 8 ^ u.length * pk8 v
  | [], v => by
    show pk8 v = 0 + 8 ^ 0 * pk8 v
    omega
  | x :: u, v => by
    show x + 8 * pk8 (u ++ v) = x + 8 * pk8 u + 8 ^ (u.length + 1) * pk8 v
    rw [pk8_a u v, Nat.pow_succ, Nat.mul_add, Nat.mul_comm (8 ^ u.length) 8, Nat.mul_assoc]
    omega
theorem pk8_g : ∀ (p : List Nat) (w : Nat), (∀ x ∈ p, x < 8) → pk8 p / 8 ^ w % 8 = p.getD w 0
  | [], w, _ => by
    show 0 / 8 ^ w % 8 = 0
    rw [Nat.zero_div]
  | x :: p, 0, h => by
    have hx := h x List.mem_cons_self
    show (x + 8 * pk8 p) / 1 % 8 = x
    omega
  | x :: p, w + 1, h => by
    have hx := h x List.mem_cons_self
    have ih := pk8_g p w (fun y hy => h y (List.mem_cons_of_mem _ hy))
    show (x + 8 * pk8 p) / 8 ^ (w + 1) % 8 = p.getD w 0
    rw [Nat.pow_succ, Nat.mul_comm (8 ^ w) 8, ← Nat.div_div_eq_div_mul, show (x + 8 * pk8 p) / 8 = pk8 p by omega]
    exact ih
theorem p8w (w : Nat) : 2 ^ (3 * w) = 8 ^ w := by rw [Nat.pow_mul]
theorem a8 {W : Nat} {p : List Nat} (h : arr W p) : ∀ x ∈ p, x < 8 := fun x hx => by have := h.2.1 x hx; omega
theorem pk8_b {W : Nat} {p : List Nat} (hW : W ≤ 6) (h : arr W p) : pk8 p < 2 ^ 18 := Nat.lt_of_lt_of_le (pk8_l p (a8 h)) (by rw [h.1, show (2 : Nat) ^ 18 = 8 ^ 6 from rfl]; exact Nat.pow_le_pow_right (by decide) hW)
theorem xr_d {A B C n : Nat} (h : A < 2 ^ n) : (A + 2 ^ n * B) ^^^ (2 ^ n * C) = A + 2 ^ n * (B ^^^ C) := by
  have e1 : ((A + 2 ^ n * B) ^^^ (2 ^ n * C)) / 2 ^ n = B ^^^ C := by
    rw [Nat.xor_div_two_pow, Nat.add_mul_div_left _ _ (Nat.two_pow_pos _), Nat.div_eq_of_lt h, Nat.zero_add, Nat.mul_div_cancel_left _ (Nat.two_pow_pos _)]
  have e2 : ((A + 2 ^ n * B) ^^^ (2 ^ n * C)) % 2 ^ n = A := by
    rw [Nat.xor_mod_two_pow, Nat.add_mul_mod_self_left, Nat.mod_eq_of_lt h, Nat.mul_mod_right, Nat.xor_zero]
  have := Nat.div_add_mod ((A + 2 ^ n * B) ^^^ (2 ^ n * C)) (2 ^ n)
  rw [e1, e2] at this
  omega
theorem x8_d : ∀ x, x < 8 → ∀ y, y < 8 → x ^^^ y < 8 := by decide
/-- one place changes -/
theorem pk8_x {u v : List Nat} {x y : Nat} (hu : ∀ z ∈ u, z < 8) (hx : x < 8) (hy : y < 8) : pk8 (u ++ x :: v) ^^^ (y * 8 ^ u.length) = pk8 (u ++ (x ^^^ y) :: v) := by
  rw [pk8_a, pk8_a]
  show (pk8 u + 8 ^ u.length * (x + 8 * pk8 v)) ^^^ (y * 8 ^ u.length) = pk8 u + 8 ^ u.length * ((x ^^^ y) + 8 * pk8 v)
  have hl := pk8_l u hu
  rw [← p8w] at hl ⊢
  rw [Nat.mul_comm y, xr_d hl]
  have e : (x + 8 * pk8 v) ^^^ y = (x ^^^ y) + 8 * pk8 v := by
    have e1 : ((x + 8 * pk8 v) ^^^ y) / 2 ^ 3 = pk8 v := by
      rw [Nat.xor_div_two_pow, show (x + 8 * pk8 v) / 2 ^ 3 = pk8 v by omega, Nat.div_eq_of_lt hy, Nat.xor_zero]
    have e2 : ((x + 8 * pk8 v) ^^^ y) % 2 ^ 3 = x ^^^ y := by
      rw [Nat.xor_mod_two_pow, show (x + 8 * pk8 v) % 2 ^ 3 = x by omega, Nat.mod_eq_of_lt hy]
    omega
  rw [e]
theorem swx_x : ∀ e, e < 36 → ∀ x, x < 6 → (x = e / 6 ∨ x = e % 6 → x ^^^ (e / 6 ^^^ e % 6) = swx e x) ∧ (¬ x = e / 6 → ¬ x = e % 6 → x = swx e x) := by decide +kernel
section RTJ
variable {d : Nat} {M : mm_M} {W : Nat} {p : List Nat}
set_option maxRecDepth 100000 in
theorem ct_plO {w : Nat} (hW : W ≤ 6) (ha : arr W p) (hw : w < 8) : am_M (d + 1) false nm_X7_placeOf [aI (nI (pk8 p)), aI (nI w)] M (am_q1 (aI (nI (p.getD w 0))) M) := by
  have hb := pk8_b hW ha
  refine ⟨rfl, rfl, rfl, fun X hX => am_run hX 8 _ _ _ _ ?_⟩
  conv => whnf
  refine ⟨trivial, ?_, rfl⟩
  have e : nI (pk8 p) >>> ((3 : Int32) * nI w &&& 31) &&& 7 = nI (p.getD w 0) := by
    rw [show (3 : Int32) * nI w = nI (3 * w) from by rw [show (3 : Int32) = nI 3 from rfl, nI_mul], nI_sh (by omega) (3 * w) (by omega), nI_m7, p8w, pk8_g p w (a8 ha)]
  exact congrArg (fun v => Sum.inl (some (aI v))) e
set_option maxRecDepth 100000 in
theorem pf_l {P : am_Q} {X : am_X} (hX : am_K d false nm_X7_placesAtFirst P X) (hW : W ≤ 6) (hP : P (.inl (some (aI (nI (pk8 (List.range W)))))) M) : ∀ (m i : Nat), i + m = W → X 4 [some (aI (nI W)), some (aI (nI (pk8 (List.range i)))), some (aI (nI i))] [] M := by
  intro m
  induction m with
  | zero =>
    intro i hi
    obtain rfl : i = W := by omega
    refine am_run hX 3 _ _ _ _ ?_
    conv => whnf
    refine ⟨fun _ => ?_, fun z => absurd (nI_le (Nat.le_refl _) (by omega)) z⟩
    refine am_run hX 2 _ _ _ _ ?_
    conv => whnf
    exact ⟨trivial, hP⟩
  | succ m ih =>
    intro i hi
    have hl : pk8 (List.range i) < 2 ^ (3 * i) := by
      rw [p8w]
      have := pk8_l (List.range i) (fun x hx => by have := List.mem_range.mp hx; omega)
      rw [List.length_range] at this
      exact this
    have e : pk8 (List.range (i + 1)) = pk8 (List.range i) + 2 ^ (3 * i) * i := by
      rw [List.range_succ, pk8_a, List.length_range, p8w]
      show _ + 8 ^ i * (i + 8 * 0) = _
      rw [Nat.mul_zero, Nat.add_zero]
    have hs : i * 2 ^ (3 * i) < 2 ^ 32 := by
      have a1 : 2 ^ (3 * i) ≤ 2 ^ 18 := Nat.pow_le_pow_right (by decide) (by omega)
      have a2 : i * 2 ^ (3 * i) ≤ 6 * 2 ^ 18 := Nat.mul_le_mul (by omega) a1
      omega
    refine am_run hX 3 _ _ _ _ ?_
    conv => whnf
    refine ⟨fun z => absurd z (nI_ge (by omega) (by omega)), fun _ => ?_⟩
    refine am_run hX 10 _ _ _ _ ?_
    conv => whnf
    rw [show (3 : Int32) * nI i = nI (3 * i) from by rw [show (3 : Int32) = nI 3 from rfl, nI_mul], nI_ors (by omega) hl hs, ← e, nI_1]
    exact ih (i + 1) (by omega)
set_option maxRecDepth 100000 in
theorem ct_plF (hW : W ≤ 6) : am_M (d + 1) false nm_X7_placesAtFirst [aI (nI W)] M (am_q1 (aI (nI (pk8 (List.range W)))) M) := by
  refine ⟨rfl, rfl, rfl, fun X hX => am_run hX 4 _ _ _ _ ?_⟩
  conv => whnf
  exact pf_l (M := M) hX hW ⟨rfl, rfl⟩ W 0 (by omega)
set_option maxRecDepth 100000 in
theorem sp_w {P : am_Q} {X : am_X} {e : Nat} (hX : am_K (d + 1) false nm_X7_swapped P X) (hW : W ≤ 6) (he : e < 36) (ha : arr W p) (hP : P (.inl (some (aI (nI (pk8 (p.map (swx e))))))) M) : ∀ (m i : Nat) (v6 : Option am_V), i + m = W → X 6 [some (aI (nI (pk8 p))), some (aI (nI W)), some (aI (nI (e / 6))), some (aI (nI (e % 6))), some (aI (nI (pk8 ((p.take i).map (swx e) ++ p.drop i)))), some (aI (nI i)), v6] [] M := by
  intro m
  induction m with
  | zero =>
    intro i v6 hi
    obtain rfl : i = W := by omega
    refine am_run hX 3 _ _ _ _ ?_
    conv => whnf
    refine ⟨fun _ => ?_, fun z => absurd (nI_le (Nat.le_refl _) (by omega)) z⟩
    refine am_run hX 2 _ _ _ _ ?_
    conv => whnf
    rw [show p.take i = p from by rw [← ha.1, List.take_length], show p.drop i = [] from by rw [← ha.1, List.drop_length], List.append_nil]
    exact ⟨trivial, hP⟩
  | succ m ih =>
    intro i v6 hi
    have il : i < p.length := by rw [ha.1]; omega
    have x6 := l6 ha (show i < W by omega)
    obtain ⟨s1, s2⟩ := swx_x e he (p.getD i 0) x6
    have go : ∀ v, v = nI (pk8 ((p.take (i + 1)).map (swx e) ++ p.drop (i + 1))) → X 45 [some (aI (nI (pk8 p))), some (aI (nI W)), some (aI (nI (e / 6))), some (aI (nI (e % 6))), some (aI v), some (aI (nI i)), some (aI (nI (p.getD i 0)))] [] M := by
      intro v hv
      subst hv
      refine am_run hX 2 _ _ _ _ ?_
      conv => whnf
      rw [nI_1]
      exact ih (i + 1) _ (by omega)
    have e1 : (p.take (i + 1)).map (swx e) ++ p.drop (i + 1) = (p.take i).map (swx e) ++ swx e (p.getD i 0) :: p.drop (i + 1) := by
      rw [tk_c il, List.map_append, List.append_assoc]
      rfl
    rw [e1] at go
    rw [drp_c il]
    have mv : X 32 [some (aI (nI (pk8 p))), some (aI (nI W)), some (aI (nI (e / 6))), some (aI (nI (e % 6))), some (aI (nI (pk8 ((p.take i).map (swx e) ++ p.getD i 0 :: p.drop (i + 1))))), some (aI (nI i)), some (aI (nI (p.getD i 0)))] [] M ∨ ¬ (p.getD i 0 = e / 6 ∨ p.getD i 0 = e % 6) := by
      by_cases c : p.getD i 0 = e / 6 ∨ p.getD i 0 = e % 6
      · refine Or.inl ?_
        have hy : e / 6 ^^^ e % 6 < 8 := x8_d _ (by omega) _ (by omega)
        have hs : (e / 6 ^^^ e % 6) * 2 ^ (3 * i) < 2 ^ 32 := by
          have a1 : 2 ^ (3 * i) ≤ 2 ^ 18 := Nat.pow_le_pow_right (by decide) (by omega)
          have a2 : (e / 6 ^^^ e % 6) * 2 ^ (3 * i) ≤ 7 * 2 ^ 18 := Nat.mul_le_mul (by omega) a1
          omega
        refine am_run hX 10 _ _ _ _ ?_
        conv => whnf
        refine go _ ?_
        rw [show (3 : Int32) * nI i = nI (3 * i) from by rw [show (3 : Int32) = nI 3 from rfl, nI_mul], nI_xor, nI_shl (by omega) hs, nI_xor, p8w]
        have ln : ((p.take i).map (swx e)).length = i := by rw [List.length_map, List.length_take]; omega
        have := pk8_x (u := (p.take i).map (swx e)) (v := p.drop (i + 1)) (x := p.getD i 0) (y := e / 6 ^^^ e % 6) (fun z hz => by
          obtain ⟨y, hy, rfl⟩ := List.mem_map.mp hz
          have := swx_l e he y (ha.2.1 y (List.mem_of_mem_take hy))
          omega) (by omega) hy
        rw [ln, s1 c] at this
        rw [this]
      · exact Or.inr c
    refine am_run hX 3 _ _ _ _ ?_
    conv => whnf
    refine ⟨fun z => absurd z (nI_ge (by omega) (by omega)), fun _ => ?_⟩
    refine am_run hX 3 _ _ _ _ ?_
    conv => whnf
    refine am_c1 (ct_plO (d := d) hW ha (by omega)) ?_
    refine am_run hX 4 _ _ _ _ ?_
    conv => whnf
    rw [nI_eq (by omega) (by omega)]
    refine ⟨fun z => ?_, fun z => ?_⟩
    · exact mv.elim (fun h => h) (fun h => absurd (Or.inl z) h)
    · refine am_run hX 3 _ _ _ _ ?_
      conv => whnf
      rw [nI_eq (by omega) (by omega)]
      refine ⟨fun y => ?_, fun y => ?_⟩
      · refine go _ ?_
        rw [← s2 z y]
      · exact mv.elim (fun h => h) (fun h => absurd (Or.inr (Decidable.byContradiction y)) h)
set_option maxRecDepth 100000 in
theorem ct_swp {e : Nat} (hW : W ≤ 6) (he : e < 36) (ha : arr W p) : am_M (d + 2) false nm_X7_swapped [aI (nI (pk8 p)), aI (nI W), aI (nI (e / 6)), aI (nI (e % 6))] M (am_q1 (aI (nI (pk8 (p.map (swx e))))) M) := by
  refine ⟨rfl, rfl, rfl, fun X hX => am_run hX 4 _ _ _ _ ?_⟩
  conv => whnf
  exact sp_w (d := d) (M := M) hX hW he ha ⟨rfl, rfl⟩ W 0 none (by omega)
theorem rk_pc : ∀ x, x < 6 → ∀ u, u < 64 → pc (u &&& (2 ^ x - 1)) ≤ x := by decide +kernel
set_option maxRecDepth 100000 in
theorem rk_lo {P : am_Q} {X : am_X} {R : Nat} (hX : am_K (d + 1) false nm_X7_rankOf P X) (hW : W ≤ 6) (ha : arr W p) (hP : P (.inl (some (aI (nI R)))) M) : ∀ (m i r u : Nat) (v5 : Option am_V), i + m = W → u < 64 → rkF (p.drop i) i r u = R → X 7 [some (aI (nI (pk8 p))), some (aI (nI W)), some (aI (nI r)), some (aI (nI u)), some (aI (nI i)), v5] [] M := by
  intro m
  induction m with
  | zero =>
    intro i r u v5 hi hu hR
    obtain rfl : i = W := by omega
    rw [show p.drop i = [] from by rw [← ha.1, List.drop_length]] at hR
    have hR : r = R := hR
    subst hR
    refine am_run hX 3 _ _ _ _ ?_
    conv => whnf
    refine ⟨fun _ => ?_, fun z => absurd (nI_le (Nat.le_refl _) (by omega)) z⟩
    refine am_run hX 2 _ _ _ _ ?_
    conv => whnf
    exact ⟨trivial, hP⟩
  | succ m ih =>
    intro i r u v5 hi hu hR
    have il : i < p.length := by rw [ha.1]; omega
    have x6 := l6 ha (show i < W by omega)
    rw [drp_c il] at hR
    generalize hx : p.getD i 0 = x at hR x6
    have hR : rkF (p.drop (i + 1)) (i + 1) (r * (6 - i) + x - pc (u &&& (2 ^ x - 1))) (u ||| 2 ^ x) = R := hR
    have hpc := rk_pc x x6 u hu
    have x2 : 2 ^ x < 64 := Nat.pow_lt_pow_right (n := 6) (by decide) x6
    have hu2 : u ||| 2 ^ x < 64 := Nat.or_lt_two_pow (n := 6) hu x2
    have x2p : 1 ≤ 2 ^ x := Nat.two_pow_pos x
    have ul : u &&& (2 ^ x - 1) < 64 := Nat.lt_of_le_of_lt Nat.and_le_left hu
    have key := ct_plO (d := d) (M := M) (w := i) hW ha (by omega)
    rw [hx] at key
    refine am_run hX 3 _ _ _ _ ?_
    conv => whnf
    refine ⟨fun z => absurd z (nI_ge (by omega) (by omega)), fun _ => ?_⟩
    refine am_run hX 3 _ _ _ _ ?_
    conv => whnf
    refine am_c1 key ?_
    refine am_run hX 16 _ _ _ _ ?_
    conv => whnf
    rw [sh2 x (by omega), nI_s1 _ x2p, nI_and]
    refine am_c1 (ct_bit16 d (u &&& (2 ^ x - 1)) (by omega) M) ?_
    refine am_run hX 10 _ _ _ _ ?_
    conv => whnf
    rw [show (6 : Int32) - nI i = nI (6 - i) from by rw [show (6 : Int32) = nI 6 from rfl, nI_sub (by omega)], nI_mul, nI_add, nI_sub (by omega), sh2 x (by omega), nI_or, nI_1]
    exact ih (i + 1) _ _ _ (by omega) hu2 hR
set_option maxRecDepth 100000 in
theorem ct_rkP (hW : W ≤ 6) (ha : arr W p) : am_M (d + 2) false nm_X7_rankOf [aI (nI (pk8 p)), aI (nI W)] M (am_q1 (aI (nI (rkP p))) M) := by
  refine ⟨rfl, rfl, rfl, fun X hX => am_run hX 6 _ _ _ _ ?_⟩
  conv => whnf
  exact rk_lo (d := d) (M := M) hX hW ha ⟨rfl, rfl⟩ W 0 0 0 none (by omega) (by decide) rfl
/-- the class's CHIP: each place's mask, and the links by number -/
def nrM (M : mm_M) (Lk : Nat → Nat → Bool) : Prop := (∀ a b, a < 6 → b < 6 → Lk a b = Lk b a) ∧ ∀ a, a < 6 → ∃ m, m < 64 ∧ M.1 72 a = nI m ∧ ∀ b, b < 6 → m / 2 ^ b % 2 = if Lk a b = true then 1 else 0
/-- a set of one or two WIRES -/
def wsP (o : Option (Nat × Nat)) (s : Nat) : Prop := match o with
  | none => s < 256 ∧ s &&& (s - 1) = 0
  | some (a, b) => a < 6 ∧ b < 6 ∧ a ≠ b ∧ s = 2 ^ a ||| 2 ^ b
theorem ws_2 : ∀ a, a < 6 → ∀ b, b < 6 → a ≠ b → (2 ^ a ||| 2 ^ b) &&& ((2 ^ a ||| 2 ^ b) - 1) = 2 ^ max a b ∧ lw (2 ^ a ||| 2 ^ b) = min a b ∧ lw (2 ^ max a b) = max a b ∧ (2 ^ a ||| 2 ^ b) < 64 ∧ 0 < (2 ^ a ||| 2 ^ b) ∧ 2 ^ max a b < 64 := by decide +kernel
set_option maxRecDepth 100000 in
theorem ct_cBD {Lk : Nat → Nat → Bool} {o : Option (Nat × Nat)} {s : Nat} (hW : W ≤ 6) (ha : arr W p) (hn : nrM M Lk) (ho : wsP o s) (hl : ∀ a b, o = some (a, b) → a < W ∧ b < W) (hs0 : 0 < s) : am_M (d + 3) false nm_X7_canBeDone [aR 70, aI (nI s), aI (nI (pk8 p))] M (am_q1 (aI (b01 (lkB Lk p o))) M) := by
  cases o with
  | none =>
    obtain ⟨s256, h0⟩ := ho
    refine ⟨rfl, rfl, rfl, fun X hX => am_run hX 6 _ _ _ _ ?_⟩
    conv => whnf
    rw [nI_s1 s hs0, nI_and, h0]
    refine am_run hX 2 _ _ _ _ ?_
    conv => whnf
    refine ⟨fun z => absurd rfl z, fun _ => ?_⟩
    refine am_run hX 2 _ _ _ _ ?_
    conv => whnf
    exact ⟨rfl, rfl, rfl⟩
  | some ab =>
    obtain ⟨a, b⟩ := ab
    obtain ⟨a6, b6, hne, rfl⟩ := ho
    obtain ⟨aW, bW⟩ := hl a b rfl
    obtain ⟨w1, w2, w3, w4, w5, w6⟩ := ws_2 a a6 b b6 hne
    have mW : min a b < W := by omega
    have xW : max a b < W := by omega
    have p1 := l6 ha mW
    have p2 := l6 ha xW
    have e : lkB Lk p (some (a, b)) = Lk (p.getD (min a b) 0) (p.getD (max a b) 0) := by
      show Lk (p.getD a 0) (p.getD b 0) = _
      rcases Nat.lt_or_ge a b with c | c
      · rw [Nat.min_eq_left (by omega), Nat.max_eq_right (by omega)]
      · rw [Nat.min_eq_right c, Nat.max_eq_left c]
        exact hn.1 _ _ (l6 ha aW) (l6 ha bW)
    rw [e]
    have xp : 0 < 2 ^ max a b := Nat.two_pow_pos _
    obtain ⟨mm, m64, m1, m2⟩ := hn.2 _ p1
    have m2 := m2 _ p2
    refine ⟨rfl, rfl, rfl, fun X hX => am_run hX 6 _ _ _ _ ?_⟩
    conv => whnf
    rw [nI_s1 _ hs0, nI_and, w1]
    refine am_run hX 2 _ _ _ _ ?_
    conv => whnf
    refine ⟨fun _ => ?_, fun z => absurd (nI_ne0 (by omega) (by omega)) z⟩
    refine am_run hX 3 _ _ _ _ ?_
    conv => whnf
    refine am_c1 (ct_low (d := d) (by omega) (by omega)) ?_
    rw [w2]
    refine am_run hX 1 _ _ _ _ ?_
    conv => whnf
    refine am_c1 (ct_plO (d := d + 1) hW ha (by omega)) ?_
    refine am_run hX 4 _ _ _ _ ?_
    conv => whnf
    refine am_c1 (ct_low (d := d) (by omega) xp) ?_
    rw [w3]
    refine am_run hX 1 _ _ _ _ ?_
    conv => whnf
    refine am_c1 (ct_plO (d := d + 1) hW ha (by omega)) ?_
    generalize p.getD (min a b) 0 = y1 at *
    generalize p.getD (max a b) 0 = y2 at *
    refine am_run hX 4 _ _ _ _ ?_
    conv => whnf
    refine ⟨fun z => absurd z (nI_ge (a := y1) (b := 6) p1 (by decide)), fun _ => ?_⟩
    refine am_run hX 9 _ _ _ _ ?_
    conv => whnf
    refine ⟨vp_in_nI p1 (by decide), ?_⟩
    conv => whnf
    rw [nI_clamp (n := y1) (by omega), m1, nI_sh (by omega) y2 (by omega), nI_m1, m2]
    cases hL : Lk y1 y2 with
    | true =>
      rw [if_pos rfl]
      refine ⟨fun z => absurd z (by decide), fun _ => ?_⟩
      refine am_run hX 3 _ _ _ _ ?_
      conv => whnf
      exact ⟨rfl, by rw [hL]; rfl, rfl⟩
    | false =>
      rw [if_neg (by decide)]
      refine ⟨fun _ => ?_, fun z => absurd rfl z⟩
      refine am_run hX 2 _ _ _ _ ?_
      conv => whnf
      exact ⟨rfl, by rw [hL]; rfl, rfl⟩
end RTJ
