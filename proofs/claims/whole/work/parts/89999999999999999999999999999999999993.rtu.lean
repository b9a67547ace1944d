/-! ROUTE: the class puts the WAY -/
section RTU
variable {d : Nat} {M : mm_M} {n c W : Nat} {l : List bk_X} {Lk : Nat → Nat → Bool} {p : List Nat}
set_option maxRecDepth 100000 in
theorem pld_l {P : am_Q} {X : am_X} {x : bk_X} (hX : am_K (d + 1) false nm_X7_placed P X) (hW : W ≤ 6) (ha : arr W p) (ow : bk_w W x) (hK : X 36 [some (aI (nI (bk_p x))), some (aI (nI (pk8 p))), some (aI (nI W)), some (aI (nI (hdW p x.2.2.2.1 W))), some (aI (nI W))] [] M) : ∀ (m w : Nat), w + m = W → X 5 [some (aI (nI (bk_p x))), some (aI (nI (pk8 p))), some (aI (nI W)), some (aI (nI (hdW p x.2.2.2.1 w))), some (aI (nI w))] [] M := by
  have w8 := w256 (show W ≤ 8 by omega)
  have c8 := ow.2.2.2.1
  intro m
  induction m with
  | zero =>
    intro w hw
    obtain rfl : w = W := by omega
    refine am_run hX 3 _ _ _ _ ?_
    conv => whnf
    exact ⟨fun _ => hK, fun z => absurd (nI_le (Nat.le_refl _) (by omega)) z⟩
  | succ m ih =>
    intro w hw
    have wW : w < W := by omega
    have p6 := l6 ha wW
    have ih := ih (w + 1) (by omega)
    have eh : hdW p x.2.2.2.1 (w + 1) = hdW p x.2.2.2.1 w ||| (if x.2.2.2.1 / 2 ^ w % 2 = 1 then 2 ^ p.getD w 0 else 0) := rfl
    have e2 : (if x.2.2.2.1 / 2 ^ w % 2 = 1 then 2 ^ p.getD w 0 else 0) = x.2.2.2.1 / 2 ^ w % 2 * 2 ^ p.getD w 0 := by
      by_cases q : x.2.2.2.1 / 2 ^ w % 2 = 1
      · rw [if_pos q, q, Nat.one_mul]
      · rw [if_neg q, show x.2.2.2.1 / 2 ^ w % 2 = 0 by omega, Nat.zero_mul]
    have hb : x.2.2.2.1 / 2 ^ w % 2 * 2 ^ p.getD w 0 < 2 ^ 32 := by
      have a1 : 2 ^ p.getD w 0 ≤ 2 ^ 6 := Nat.pow_le_pow_right (by decide) (by omega)
      have a2 : x.2.2.2.1 / 2 ^ w % 2 * 2 ^ p.getD w 0 ≤ 1 * 2 ^ 6 := Nat.mul_le_mul (by omega) a1
      omega
    rw [eh, e2] at ih
    refine am_run hX 3 _ _ _ _ ?_
    conv => whnf
    refine ⟨fun z => absurd z (nI_ge (by omega) (by omega)), fun _ => ?_⟩
    refine am_run hX 3 _ _ _ _ ?_
    conv => whnf
    refine am_c1 (ct_controlsOf (d := d)) ?_
    rw [bk_cc (show W ≤ 8 by omega) ow]
    refine am_run hX 7 _ _ _ _ ?_
    conv => whnf
    refine am_c1 (ct_plO (d := d) hW ha (by omega)) ?_
    refine am_run hX 5 _ _ _ _ ?_
    conv => whnf
    rw [nI_sh (by omega) w (by omega), nI_m1, nI_shl (by omega) hb, nI_or, nI_1]
    exact ih
set_option maxRecDepth 100000 in
theorem ct_plcd {x : bk_X} (hW : W ≤ 6) (ha : arr W p) (ho : ogd W x) : am_M (d + 2) false nm_X7_placed [aI (nI (bk_p x)), aI (nI (pk8 p)), aI (nI W)] M (am_q1 (aI (nI (bk_p (plX W p x)))) M) := by
  have ow := ho.1
  have hW8 : W ≤ 8 := by omega
  have hc := hdW_l (p := p) (s := x.2.2.2.1) W (fun w hw => l6 ha hw)
  have e8 := ow.1
  have p1 := l6 ha ow.2.1
  have fin : ∀ {P : am_Q} {X : am_X} (hX : am_K (d + 1) false nm_X7_placed P X) (hP : P (.inl (some (aI (nI (bk_p (plX W p x)))))) M) (v : Int32), v = nI (plX W p x).2.2.1 → X 57 [some (aI (nI (bk_p x))), some (aI (nI (pk8 p))), some (aI (nI W)), some (aI (nI (hdW p x.2.2.2.1 W))), some (aI (nI W))] [aI v] M := by
    intro P X hX hP v hv
    have s8 : (plX W p x).2.2.1 < 8 := by
      show (if x.1 = 8 then p.getD x.2.2.1 0 else 0) < 8
      split
      · rename_i q
        have := l6 ha (ho.2.2 q).1
        omega
      · decide
    subst hv
    refine am_run hX 3 _ _ _ _ ?_
    conv => whnf
    refine am_c1 (ct_kind (d := d)) ?_
    rw [bk_k hW8 ow]
    refine am_run hX 3 _ _ _ _ ?_
    conv => whnf
    refine am_c1 (ct_wireOf (d := d)) ?_
    rw [bk_wi hW8 ow]
    refine am_run hX 1 _ _ _ _ ?_
    conv => whnf
    refine am_c1 (ct_plO (d := d) hW ha (by have := ow.2.1; omega)) ?_
    refine am_run hX 3 _ _ _ _ ?_
    conv => whnf
    refine am_c1 (ct_pack (d := d) (M := M) (a := x.1) (w := p.getD x.2.1 0) (s := (plX W p x).2.2.1) (c := hdW p x.2.2.2.1 W) (by omega) (by omega) s8 (by omega)) ?_
    refine am_run hX 1 _ _ _ _ ?_
    conv => whnf
    exact ⟨trivial, hP⟩
  refine ⟨rfl, rfl, rfl, fun X hX => am_run hX 4 _ _ _ _ ?_⟩
  conv => whnf
  refine pld_l (d := d) (M := M) (x := x) hX hW ha ow ?_ W 0 (by omega)
  refine am_run hX 2 _ _ _ _ ?_
  conv => whnf
  refine am_c1 (ct_kind (d := d)) ?_
  rw [bk_k hW8 ow]
  refine am_run hX 2 _ _ _ _ ?_
  conv => whnf
  rw [show (8 : Int32) = nI 8 from rfl, nI_eq (by omega) (by decide)]
  refine ⟨fun z => ?_, fun z => ?_⟩
  · refine am_run hX 1 _ _ _ _ ?_
    conv => whnf
    refine fin hX ⟨rfl, rfl⟩ _ ?_
    show (0 : Int32) = nI (if x.1 = 8 then p.getD x.2.2.1 0 else 0)
    rw [if_neg z]
    rfl
  · have z := Decidable.byContradiction z
    have s6 := (ho.2.2 z).1
    refine am_run hX 3 _ _ _ _ ?_
    conv => whnf
    refine am_c1 (ct_secondOf (d := d)) ?_
    rw [bk_s hW8 ow]
    refine am_run hX 1 _ _ _ _ ?_
    conv => whnf
    refine am_c1 (ct_plO (d := d) hW ha (by omega)) ?_
    refine am_run hX 1 _ _ _ _ ?_
    conv => whnf
    refine fin hX ⟨rfl, rfl⟩ _ ?_
    show _ = nI (if x.1 = 8 then p.getD x.2.2.1 0 else 0)
    rw [if_pos z]
theorem rtD_d {L : List bk_X} (g : rtD M n c W l Lk) : rtD (dlM M L) n c W l Lk := by
  have e : ∀ k, k ≠ 9 → k ≠ 13 → (dlM M L).1 k = M.1 k := fun k a b => dl_r _ _ b a
  obtain ⟨g1, g2, g3, g4, g5, g6, g7, g8, g9⟩ := g
  refine ⟨bk_dl L g1, g2, g3, bk_dc L g4, ?_, g6, g7, ?_, ?_⟩
  · unfold opsL bk_o at g5 ⊢
    rw [e 10 (by decide) (by decide), e 11 (by decide) (by decide), e 111 (by decide) (by decide), e 112 (by decide) (by decide), e 113 (by decide) (by decide), e 114 (by decide) (by decide), e 115 (by decide) (by decide), e 116 (by decide) (by decide), e 117 (by decide) (by decide)]
    exact g5
  · unfold nrM at g8 ⊢
    rw [e 72 (by decide) (by decide)]
    exact g8
  · unfold lnK at g9 ⊢
    rw [e 70 (by decide) (by decide)]
    exact g9
theorem sg_n : ∀ (a m : Nat), (sgL W p l a m).length = m
  | _, 0 => rfl
  | a, m + 1 => by
    show (sgL W p l a m ++ [plX W p (zg l (a + m))]).length = m + 1
    rw [List.length_append, sg_n a m]
    rfl
/-- so many OPS -/
theorem rtw_n : ∀ (u : List Nat) (k : List Nat × Nat), (rtw W l Lk u k).length + k.2 = u.length + (awS (rtS Lk (rtPp l) l.length) u k).2
  | [], k => by
    show 0 + k.2 = 0 + k.2
    rfl
  | e :: u, k => by
    have ih := rtw_n u (rtS Lk (rtPp l) l.length e k)
    have g : k.2 ≤ (rtS Lk (rtPp l) l.length e k).2 := ad_ge _
    show (_ :: (sgL W (rtS Lk (rtPp l) l.length e k).1 l k.2 ((rtS Lk (rtPp l) l.length e k).2 - k.2) ++ rtw W l Lk u (rtS Lk (rtPp l) l.length e k))).length + k.2 = (u.length + 1) + (awS (rtS Lk (rtPp l) l.length) u (rtS Lk (rtPp l) l.length e k)).2
    rw [List.length_cons, List.length_append, sg_n]
    omega
theorem rtT_n (u : List Nat) : (rtT W l Lk u).length = u.length + (awS (rtS Lk (rtPp l) l.length) u (rt0 Lk (rtPp l) l.length W)).2 := by
  unfold rtT
  rw [List.length_append, sg_n]
  have := rtw_n (W := W) (l := l) (Lk := Lk) u (rt0 Lk (rtPp l) l.length W)
  omega
set_option maxRecDepth 100000 in
theorem ptw_j {P : am_Q} {X : am_X} {a t : Nat} {L : List bk_X} {v3 v6 v7 : Int32} {v10 : Option am_V} (hX : am_K (d + 4) false nm_X7_putWay P X) (h : rtD M n c W l Lk) (ha : arr W p) (ht : t ≤ l.length) (hb : L.length ≤ 1000) (hK : ∀ v9, X 74 [some (aR 70), some (aR 9), some (aI (nI c)), some (aI v3), some (aI (nI W)), some (aI (nI (pk8 p))), some (aI v6), some (aI v7), some (aI (nI t)), v9, v10] [] (dlM M (L ++ sgL W p l a (t - a)))) : ∀ (m j : Nat), j + m = t → a ≤ j → X 43 [some (aR 70), some (aR 9), some (aI (nI c)), some (aI v3), some (aI (nI W)), some (aI (nI (pk8 p))), some (aI v6), some (aI v7), some (aI (nI t)), some (aI (nI j)), v10] [] (dlM M (L ++ sgL W p l a (j - a))) := by
  have hl3 := h.2.2.2.2.1.2.2.1
  have n20 := h.1.1
  have hc := h.2.1
  intro m
  induction m with
  | zero =>
    intro j hj ha'
    obtain rfl : j = t := by omega
    refine am_run hX 3 _ _ _ _ ?_
    conv => whnf
    exact ⟨fun _ => hK _, fun z => absurd (nI_le (Nat.le_refl _) (by omega)) z⟩
  | succ m ih =>
    intro j hj ha'
    have jl : j < l.length := by omega
    have hD := rtD_d (L := L ++ sgL W p l a (j - a)) h
    have ho := (hD.2.2.2.2.2.1 j jl).1
    have key := bk_at (d := d + 1) (M := dlM M (L ++ sgL W p l a (j - a))) hD.1 hc hD.2.2.2.1 jl
    rw [(hD.2.2.2.2.1.2.2.2 j jl).2.1] at key
    have ln : (L ++ sgL W p l a (j - a)).length < 2 ^ 30 := by
      rw [List.length_append, sg_n]
      omega
    have eL : L ++ sgL W p l a (j + 1 - a) = L ++ sgL W p l a (j - a) ++ [plX W p (zg l j)] := by
      rw [show j + 1 - a = j - a + 1 by omega, List.append_assoc]
      show L ++ (sgL W p l a (j - a) ++ [plX W p (zg l (a + (j - a)))]) = _
      rw [show a + (j - a) = j by omega]
    refine am_run hX 3 _ _ _ _ ?_
    conv => whnf
    refine ⟨fun z => absurd z (nI_ge (by omega) (by omega)), fun _ => ?_⟩
    refine am_run hX 5 _ _ _ _ ?_
    conv => whnf
    refine am_c1 key ?_
    refine am_run hX 3 _ _ _ _ ?_
    conv => whnf
    refine am_c1 (ct_plcd (d := d + 2) h.2.2.1.2 ha ho) ?_
    refine am_run hX 1 _ _ _ _ ?_
    conv => whnf
    refine am_c0 (ct_putL (d := d + 3) (M := M) (l := L ++ sgL W p l a (j - a)) (x := plX W p (zg l j)) rfl ln) ?_
    refine am_run hX 2 _ _ _ _ ?_
    conv => whnf
    rw [nI_1, ← eL]
    exact ih (j + 1) (by omega) (by omega)
set_option maxRecDepth 100000 in
theorem ptw_b {P : am_Q} {X : am_X} {a t i S : Nat} {L : List bk_X} {v8 v9 v10 : Option am_V} (hX : am_K (d + 4) false nm_X7_putWay P X) (h : rtD M n c W l Lk) (ha : arr W p) (hi : i ≤ S) (hS : S ≤ 300) (hal : a ≤ l.length) (ht : adv (rtQq Lk (rtPp l) p) l.length a = t) (hb : L.length ≤ 1000) (hK : ∀ v9, X 74 [some (aR 70), some (aR 9), some (aI (nI c)), some (aI (nI S)), some (aI (nI W)), some (aI (nI (pk8 p))), some (aI (nI a)), some (aI (nI i)), some (aI (nI t)), v9, v10] [] (dlM M (L ++ sgL W p l a (t - a)))) : X 21 [some (aR 70), some (aR 9), some (aI (nI c)), some (aI (nI S)), some (aI (nI W)), some (aI (nI (pk8 p))), some (aI (nI a)), some (aI (nI i)), v8, v9, v10] [] (dlM M L) := by
  have hl3 := h.2.2.2.2.1.2.2.1
  have t1 : t ≤ l.length := by rw [← ht]; exact ad_le hal
  have t2 : a ≤ t := by rw [← ht]; exact ad_ge a
  refine am_run hX 3 _ _ _ _ ?_
  conv => whnf
  refine ⟨fun z => absurd z (nI_nlt (by omega) (by omega)), fun _ => ?_⟩
  refine am_run hX 6 _ _ _ _ ?_
  conv => whnf
  refine am_c1 (ct_adv (d := d) (M := dlM M L) (rtD_d h) ha hal) ?_
  rw [ht]
  refine am_run hX 3 _ _ _ _ ?_
  conv => whnf
  have key := ptw_j (d := d) (M := M) (a := a) (t := t) (L := L) (v10 := v10) hX h ha t1 hb hK (t - a) a (by omega) (Nat.le_refl _)
  rw [Nat.sub_self, show L ++ sgL W p l a 0 = L from List.append_nil _] at key
  exact key
set_option maxRecDepth 100000 in
theorem ptw_l {P : am_Q} {X : am_X} {w : List Nat} (hX : am_K (d + 4) false nm_X7_putWay P X) (h : rtD M n c W l Lk) (hw : alV (rtV Lk) w) (hlen : w.length ≤ 300) (h73 : ∀ j, j < w.length → M.1 73 j = nI (kkN (w.getD j 0))) (hP : P (.inl none) (dlM M (rtT W l Lk w))) : ∀ (m i dn : Nat) (L : List bk_X) (v8 v9 v10 : Option am_V), i + m = w.length → dn ≤ l.length → adv (rtQq Lk (rtPp l) (awS (rtS Lk (rtPp l) l.length) (w.take i) (rt0 Lk (rtPp l) l.length W)).1) l.length dn = (awS (rtS Lk (rtPp l) l.length) (w.take i) (rt0 Lk (rtPp l) l.length W)).2 → L ++ sgL W (awS (rtS Lk (rtPp l) l.length) (w.take i) (rt0 Lk (rtPp l) l.length W)).1 l dn ((awS (rtS Lk (rtPp l) l.length) (w.take i) (rt0 Lk (rtPp l) l.length W)).2 - dn) = rtT W l Lk (w.take i) → X 21 [some (aR 70), some (aR 9), some (aI (nI c)), some (aI (nI w.length)), some (aI (nI W)), some (aI (nI (pk8 (awS (rtS Lk (rtPp l) l.length) (w.take i) (rt0 Lk (rtPp l) l.length W)).1))), some (aI (nI dn)), some (aI (nI i)), v8, v9, v10] [] (dlM M L) := by
  have hl3 := h.2.2.2.2.1.2.2.1
  have hW := h.2.2.1.2
  have tk : ∀ i, alV (rtV Lk) (w.take i) := fun i g hg => hw g (List.mem_of_mem_take hg)
  have ln : ∀ i (L K : List bk_X), L ++ K = rtT W l Lk (w.take i) → L.length ≤ 600 := by
    intro i L K e
    have := congrArg List.length e
    rw [List.length_append, rtT_n, List.length_take] at this
    have := rt_s (Lk := Lk) (O := rtPp l) (S := l.length) (w.take i) (rt0 Lk (rtPp l) l.length W) (ad_le (Nat.zero_le _))
    omega
  intro m
  induction m with
  | zero =>
    intro i dn L v8 v9 v10 hi hdn hadv hL
    obtain rfl : i = w.length := by omega
    refine ptw_b (d := d) hX h (arr_v (l := l) hW _ (tk _)) (Nat.le_refl _) hlen hdn hadv (by have := ln _ _ _ hL; omega) (fun v9' => ?_)
    rw [hL]
    refine am_run hX 5 _ _ _ _ ?_
    conv => whnf
    refine ⟨fun _ => ?_, fun z => absurd (nI_le (Nat.le_refl _) (by omega)) z⟩
    refine am_run hX 2 _ _ _ _ ?_
    conv => whnf
    rw [nI_1]
    refine am_run hX 3 _ _ _ _ ?_
    conv => whnf
    refine ⟨fun _ => ?_, fun z => absurd (nI_lt (Nat.lt_succ_self _) (by omega)) z⟩
    refine am_run hX 1 _ _ _ _ ?_
    conv => whnf
    rw [List.take_length]
    exact ⟨trivial, hP⟩
  | succ m ih =>
    intro i dn L v8 v9 v10 hi hdn hadv hL
    have il : i < w.length := by omega
    have ha := arr_v (l := l) hW _ (tk i)
    have hs := rtT_s (W := W) (l := l) (Lk := Lk) (w.take i) (w.getD i 0)
    rw [← tk_c il] at hs
    have es : awS (rtS Lk (rtPp l) l.length) (w.take (i + 1)) (rt0 Lk (rtPp l) l.length W) = rtS Lk (rtPp l) l.length (w.getD i 0) (awS (rtS Lk (rtPp l) l.length) (w.take i) (rt0 Lk (rtPp l) l.length W)) := by
      rw [tk_c il, aw_a]
      rfl
    have ih := ih (i + 1) (awS (rtS Lk (rtPp l) l.length) (w.take i) (rt0 Lk (rtPp l) l.length W)).2 (rtT W l Lk (w.take i) ++ [(8, w.getD i 0 / 6, w.getD i 0 % 6, 0, 0, 0)])
    have hv : rtV Lk (w.getD i 0) := by
      rw [List.getD_eq_getElem?_getD, List.getElem?_eq_getElem il]
      exact hw _ (List.getElem_mem il)
    have e73 := h73 i il
    have dS := rt_s (Lk := Lk) (O := rtPp l) (S := l.length) (w.take i) (rt0 Lk (rtPp l) l.length W) (ad_le (Nat.zero_le _))
    refine ptw_b (d := d) hX h ha (by omega) hlen hdn hadv (by have := ln _ _ _ hL; omega) (fun v9' => ?_)
    rw [hL]
    have lT : (rtT W l Lk (w.take i)).length < 2 ^ 30 := by have := ln i (rtT W l Lk (w.take i)) [] (List.append_nil _); omega
    generalize w.getD i 0 = e at *
    obtain ⟨e36, e6, _⟩ := hv
    obtain ⟨k1, k2⟩ := eT_s e e36 e6
    obtain ⟨x1, x2, _, _⟩ := eT_f (kkN e) k1
    rw [k2] at x1 x2
    rw [es] at ih hs
    generalize hk : awS (rtS Lk (rtPp l) l.length) (w.take i) (rt0 Lk (rtPp l) l.length W) = k at *
    generalize rtT W l Lk (w.take i) = T at *
    refine am_run hX 5 _ _ _ _ ?_
    conv => whnf
    refine ⟨fun z => absurd z (nI_ge (by omega) (by omega)), fun _ => ?_⟩
    refine am_run hX 7 _ _ _ _ ?_
    conv => whnf
    refine ⟨vp_in_nI (by show i < 301; omega) (by decide), ?_⟩
    conv => whnf
    rw [nI_clamp (n := i) (by omega), dl_r _ _ (by decide) (by decide), e73]
    refine ⟨vp_in_nI k1 (by decide), ?_⟩
    conv => whnf
    rw [nI_clamp (n := kkN e) (by omega)]
    dsimp only
    rw [x1]
    refine am_run hX 7 _ _ _ _ ?_
    conv => whnf
    refine ⟨vp_in_nI (by show i < 301; omega) (by decide), ?_⟩
    conv => whnf
    rw [nI_clamp (n := i) (by omega), dl_r _ _ (by decide) (by decide), e73]
    refine ⟨vp_in_nI k1 (by decide), ?_⟩
    conv => whnf
    rw [nI_clamp (n := kkN e) (by omega)]
    dsimp only
    rw [x2]
    refine am_run hX 6 _ _ _ _ ?_
    conv => whnf
    refine am_c1 (ct_pack (d := d + 3) (a := 8) (w := e / 6) (s := e % 6) (c := 0) (by decide) (by omega) (by omega) (by decide)) ?_
    refine am_run hX 1 _ _ _ _ ?_
    conv => whnf
    refine am_c0 (ct_putL (d := d + 3) (M := M) (l := T) (x := (8, e / 6, e % 6, 0, 0, 0)) rfl lT) ?_
    refine am_run hX 5 _ _ _ _ ?_
    conv => whnf
    refine am_c1 (ct_swp (d := d + 2) (e := e) hW e36 ha) ?_
    refine am_run hX 1 _ _ _ _ ?_
    conv => whnf
    refine am_run hX 2 _ _ _ _ ?_
    conv => whnf
    rw [nI_1]
    exact ih _ _ _ (by omega) dS rfl hs.symm
set_option maxRecDepth 100000 in
theorem ct_putW {w : List Nat} (h : rtD M n c W l Lk) (hw : alV (rtV Lk) w) (hlen : w.length ≤ 300) (h73 : ∀ j, j < w.length → M.1 73 j = nI (kkN (w.getD j 0))) : am_M (d + 5) false nm_X7_putWay [aR 70, aR 9, aI (nI c), aI (nI w.length)] (dlM M []) (am_q0 (dlM M (rtT W l Lk w))) := by
  have n20 := h.1.1
  have hc := h.2.1
  have hD := rtD_d (L := []) h
  refine ⟨rfl, rfl, rfl, fun X hX => am_run hX 5 _ _ _ _ ?_⟩
  conv => whnf
  refine ⟨vp_in_nI (by show c < 20; omega) (by decide), ?_⟩
  conv => whnf
  rw [nI_clamp (n := c) (by omega), hD.2.2.2.1.2.2.2.1]
  refine am_run hX 2 _ _ _ _ ?_
  conv => whnf
  refine am_c1 (ct_plF (d := d + 3) h.2.2.1.2) ?_
  refine am_run hX 5 _ _ _ _ ?_
  conv => whnf
  exact ptw_l (d := d) (M := M) hX h hw hlen h73 ⟨rfl, rfl⟩ w.length 0 0 [] none none none (by omega) (Nat.zero_le _) rfl (by
    show sgL W (List.range W) l 0 ((rt0 Lk (rtPp l) l.length W).2 - 0) = sgL W (List.range W) l 0 (rt0 Lk (rtPp l) l.length W).2 ++ []
    rw [List.append_nil]
    rfl)
end RTU
