/-! ROUTE: the reference lays what is done -/
/-- CONTROLS at their places, of the first so many WIRES -/
def hdW (p : List Nat) (s : Nat) : Nat → Nat
  | 0 => 0
  | w + 1 => hdW p s w ||| (if s / 2 ^ w % 2 = 1 then 2 ^ p.getD w 0 else 0)
/-- an OP at its places -/
def plX (W : Nat) (p : List Nat) (x : bk_X) : bk_X := (x.1, p.getD x.2.1 0, if x.1 = 8 then p.getD x.2.2.1 0 else 0, hdW p x.2.2.2.1 W, 0, 0)
/-- OPS from a on, so many -/
def sgL (W : Nat) (p : List Nat) (l : List bk_X) (a : Nat) : Nat → List bk_X
  | 0 => []
  | m + 1 => sgL W p l a m ++ [plX W p (zg l (a + m))]
theorem hdW_l {p : List Nat} {s : Nat} (W : Nat) (h : ∀ w, w < W → p.getD w 0 < 6) : hdW p s W < 64 := by
  induction W with
  | zero =>
    show 0 < 64
    decide
  | succ W ih =>
    have a := ih (fun w hw => h w (by omega))
    refine Nat.or_lt_two_pow (n := 6) a ?_
    split
    · exact Nat.pow_lt_pow_right (by decide) (h W (Nat.lt_succ_self _))
    · decide
theorem rtH_m {M N : mm_M} {b c W : Nat} {l : List bk_X} {Lk : Nat → Nat → Bool} (h : mqF b M N) (hc : c < b) (g : rtH M c W l Lk) : rtH N c W l Lk := by
  obtain ⟨g1, g2, g3, g4, g5, g6, g7⟩ := g
  have hl3 := g3.2.2.1
  have e : ∀ k, k = 10 ∨ k = 11 ∨ k = 110 ∨ k = 111 ∨ k = 195 → N.1 k = M.1 k := fun k hk => h.1 k (by omega) (by omega) (by omega)
  refine ⟨g1, g2, ⟨by rw [e 11 (by omega)]; exact g3.1, by rw [e 111 (by omega)]; exact g3.2.1, hl3, fun j hj => ⟨(g3.2.2.2 j hj).1, ?_⟩⟩, by rw [e 110 (by omega)]; exact g4, fun a b ha hb => by rw [e 195 (by omega)]; exact g5 a b ha hb, g6, g7⟩
  obtain ⟨o1, o2, o3, o4, o5, o6, o7⟩ := (g3.2.2.2 j hj).2
  have lt : 300 * c + j < 300 * b := by omega
  refine ⟨by rw [e 10 (by omega)]; exact o1, ?_, ?_, ?_, ?_, ?_, ?_⟩
  · rw [h.2.2.2 112 _ (by decide) (by decide) lt]; exact o2
  · rw [h.2.2.2 113 _ (by decide) (by decide) lt]; exact o3
  · rw [h.2.2.2 114 _ (by decide) (by decide) lt]; exact o4
  · rw [h.2.2.2 115 _ (by decide) (by decide) lt]; exact o5
  · rw [h.2.2.2 116 _ (by decide) (by decide) lt]; exact o6
  · rw [h.2.2.2 117 _ (by decide) (by decide) lt]; exact o7
section RTG
variable {d : Nat} {M : mm_M} {b c W : Nat} {l : List bk_X} {Lk : Nat → Nat → Bool} {p : List Nat}
set_option maxRecDepth 100000 in
theorem ly_h {P : am_Q} {X : am_X} {N : mm_M} {k : Nat} {v2 v3 : Int32} (hX : am_K d false nm_X12_layDone P X) (h : rtH N c W l Lk) (ha : arr W p) (hp : plR N p) (hk : k < l.length) (hK : X 85 [some (aR 108), some (aI (nI c)), some (aI v2), some (aI v3), some (aI (nI (300 * c + k))), some (aI (nI (hdW p (zg l k).2.2.2.1 W))), some (aI (nI W))] [] N) : ∀ (m w : Nat), w + m = W → X 34 [some (aR 108), some (aI (nI c)), some (aI v2), some (aI v3), some (aI (nI (300 * c + k))), some (aI (nI (hdW p (zg l k).2.2.2.1 w))), some (aI (nI w))] [] N := by
  obtain ⟨c20, ⟨_, hW⟩, hl, h110, _, _, _⟩ := h
  have hl3 := hl.2.2.1
  obtain ⟨ow, _, _, _, _, o5, _⟩ := hl.2.2.2 k hk
  have w8 := w256 (show W ≤ 8 by omega)
  have c8 := ow.2.2.2.1
  have hin : vp_in (nI (300 * c + k)) 6300 := vp_in_nI (by omega) (by decide)
  intro m
  induction m with
  | zero =>
    intro w hw
    obtain rfl : w = W := by omega
    refine am_run hX 6 _ _ _ _ ?_
    conv => whnf
    refine ⟨vp_in_nI (by show c < 21; omega) (by decide), ?_⟩
    conv => whnf
    rw [nI_clamp (n := c) (by omega), h110]
    exact ⟨fun _ => hK, fun z => absurd (nI_le (Nat.le_refl _) (by omega)) z⟩
  | succ m ih =>
    intro w hw
    have wW : w < W := by omega
    have p6 := l6 ha wW
    have ih := ih (w + 1) (by omega)
    have eh : hdW p (zg l k).2.2.2.1 (w + 1) = hdW p (zg l k).2.2.2.1 w ||| (if (zg l k).2.2.2.1 / 2 ^ w % 2 = 1 then 2 ^ p.getD w 0 else 0) := rfl
    rw [eh] at ih
    refine am_run hX 6 _ _ _ _ ?_
    conv => whnf
    refine ⟨vp_in_nI (by show c < 21; omega) (by decide), ?_⟩
    conv => whnf
    rw [nI_clamp (n := c) (by omega), h110]
    refine ⟨fun z => absurd z (nI_ge (by omega) (by omega)), fun _ => ?_⟩
    refine am_run hX 11 _ _ _ _ ?_
    conv => whnf
    refine ⟨hin, ?_⟩
    conv => whnf
    rw [nI_clamp (n := 300 * c + k) (by omega), o5, nI_sh (by omega) w (by omega), nI_m1, show (1 : Int32) = nI 1 from rfl, nI_eq (by omega) (by decide)]
    refine ⟨fun z => ?_, fun z => ?_⟩
    · rw [if_neg z] at ih
      refine am_run hX 5 _ _ _ _ ?_
      conv => whnf
      rw [show (0 : Int32) = nI 0 from rfl, nI_or, nI_1]
      exact ih
    · rw [if_pos (Decidable.byContradiction z)] at ih
      refine am_run hX 11 _ _ _ _ ?_
      conv => whnf
      refine ⟨vp_in_nI (by show w < 6; omega) (by decide), ?_⟩
      conv => whnf
      rw [nI_clamp (n := w) (by omega), hp w (by rw [ha.1]; exact wW), sh2 _ (by omega), nI_or, nI_1]
      exact ih
theorem mqF_196 {n : Nat} {M N : mm_M} (h : mqF n M N) (hp : plR M p) : plR N p := fun w hw => by
  rw [h.1 196 (by decide) (by decide) (by decide)]
  exact hp w hw
set_option maxRecDepth 200000 in
theorem ly_l {P : am_Q} {X : am_X} {v2 : Int32} {s t : Nat} {L : List bk_X} (hX : am_K (d + 4) false nm_X12_layDone P X) (h : rtH M c W l Lk) (hb : b < 20) (hc : c < b) (h6 : M.1 108 6 = nI b) (ha : arr W p) (hp : plR M p) (ht : t ≤ l.length) (hP : ∀ N, mqF b M N → llw N b (L ++ sgL W p l s (t - s)) → P (.inl (some (aI (nI t)))) N) : ∀ (m k : Nat) (N : mm_M) (v5 v6 : Option am_V), s + k + m = t → mqF b M N → llw N b (L ++ sgL W p l s k) → X 16 [some (aR 108), some (aI (nI c)), some (aI v2), some (aI (nI t)), some (aI (nI (300 * c + (s + k)))), v5, v6] [] N := by
  have hW := h.2.1.2
  have hl3 := h.2.2.1.2.2.1
  have e3 : (300 : Int32) * nI c + nI t = nI (300 * c + t) := by rw [show (300 : Int32) = nI 300 from rfl, nI_mul, nI_add]
  intro m
  induction m with
  | zero =>
    intro k N v5 v6 hk hF hL
    refine am_run hX 7 _ _ _ _ ?_
    conv => whnf
    rw [e3]
    refine ⟨fun _ => ?_, fun z => absurd (nI_le (by omega) (by omega)) z⟩
    refine am_run hX 2 _ _ _ _ ?_
    conv => whnf
    rw [show k = t - s by omega] at hL
    exact ⟨trivial, hP N hF hL⟩
  | succ m ih =>
    intro k N v5 v6 hk hF hL
    have kl : s + k < l.length := by omega
    have hN := rtH_m hF hc h
    have hpN := mqF_196 hF hp
    have hl := hN.2.2.1
    obtain ⟨ow, _, o2, o3, o4, o5, _⟩ := hl.2.2.2 (s + k) kl
    have ho := (hN.2.2.2.2.2.1 (s + k) kl).1
    have wl : ∀ a, a < W → a < p.length := fun a h => by rw [ha.1]; exact h
    have hin : vp_in (nI (300 * c + (s + k))) 6300 := vp_in_nI (by omega) (by decide)
    have key := ct_layL (d := d + 3) (M := N) (n := b) (l := L ++ sgL W p l s k) (x := plX W p (zg l (s + k))) (by rw [hF.2.2.1 6 (by decide) (by decide) (by decide)]; exact h6) hb (by show (zg l (s + k)).1 < 16; have := ow.1; omega)
    rw [llw_d hL] at key
    have e8 := ow.1
    refine am_run hX 7 _ _ _ _ ?_
    conv => whnf
    rw [e3]
    refine ⟨fun z => absurd z (nI_ge (by omega) (by omega)), fun _ => ?_⟩
    refine am_run hX 4 _ _ _ _ ?_
    conv => whnf
    refine ly_h hX hN ha hpN kl ?_ W 0 (by omega)
    -- the OP is laid
    have fin : ∀ v, v = nI (plX W p (zg l (s + k))).2.2.1 → X 133 [some (aR 108), some (aI (nI c)), some (aI v2), some (aI (nI t)), some (aI (nI (300 * c + (s + k)))), some (aI (nI (hdW p (zg l (s + k)).2.2.2.1 W))), some (aI (nI W))] [aI v, aI (nI (p.getD (zg l (s + k)).2.1 0)), aI (nI (zg l (s + k)).1), aR 108] N := by
      intro v hv
      subst hv
      refine am_run hX 4 _ _ _ _ ?_
      conv => whnf
      refine am_c0 key ?_
      refine am_run hX 2 _ _ _ _ ?_
      conv => whnf
      rw [nI_1, show 300 * c + (s + k) + 1 = 300 * c + (s + (k + 1)) by omega]
      refine ih (k + 1) _ _ _ (by omega) (mqF_t hF (mqF_l _)) ?_
      rw [show L ++ sgL W p l s (k + 1) = L ++ sgL W p l s k ++ [plX W p (zg l (s + k))] from (List.append_assoc _ _ _).symm]
      exact llw_l N b _
    refine am_run hX 18 _ _ _ _ ?_
    conv => whnf
    refine ⟨hin, ?_⟩
    conv => whnf
    refine ⟨hin, ?_⟩
    conv => whnf
    rw [nI_clamp (n := 300 * c + (s + k)) (by omega), o2, o3]
    refine ⟨vp_in_nI (by show (zg l (s + k)).2.1 < 6; have := ow.2.1; omega) (by decide), ?_⟩
    conv => whnf
    refine ⟨hin, ?_⟩
    conv => whnf
    rw [nI_clamp (n := (zg l (s + k)).2.1) (by have := ow.2.1; omega), nI_clamp (n := 300 * c + (s + k)) (by omega), hpN _ (wl _ ow.2.1), o2, show (8 : Int32) = nI 8 from rfl, nI_eq (by omega) (by decide)]
    refine ⟨fun z => ?_, fun z => ?_⟩
    · refine am_run hX 1 _ _ _ _ ?_
      conv => whnf
      refine fin _ ?_
      show (0 : Int32) = nI (if (zg l (s + k)).1 = 8 then p.getD (zg l (s + k)).2.2.1 0 else 0)
      rw [if_neg z]
      rfl
    · have z := Decidable.byContradiction z
      have s6 := (ho.2.2 z).1
      refine am_run hX 8 _ _ _ _ ?_
      conv => whnf
      refine ⟨hin, ?_⟩
      conv => whnf
      rw [nI_clamp (n := 300 * c + (s + k)) (by omega), o4]
      refine ⟨vp_in_nI (by show (zg l (s + k)).2.2.1 < 6; omega) (by decide), ?_⟩
      conv => whnf
      rw [nI_clamp (n := (zg l (s + k)).2.2.1) (by omega), hpN _ (wl _ s6)]
      refine fin _ ?_
      show _ = nI (if (zg l (s + k)).1 = 8 then p.getD (zg l (s + k)).2.2.1 0 else 0)
      rw [if_pos z]
set_option maxRecDepth 100000 in
theorem ct_layD {s : Nat} {L : List bk_X} (h : rtH M c W l Lk) (hb : b < 20) (hc : c < b) (h6 : M.1 108 6 = nI b) (ha : arr W p) (hp : plR M p) (hs : s ≤ l.length) (hL : llw M b L) : am_M (d + 5) false nm_X12_layDone [aR 108, aI (nI c), aI (nI s)] M (fun r N => r = .inl (some (aI (nI (adv (rtQq Lk (rtPp l) p) l.length s)))) ∧ mqF b M N ∧ llw N b (L ++ sgL W p l s (adv (rtQq Lk (rtPp l) p) l.length s - s))) := by
  have hd := ad_le (Q := rtQq Lk (rtPp l) p) hs
  have hg := ad_ge (Q := rtQq Lk (rtPp l) p) (S := l.length) s
  generalize hx : adv (rtQq Lk (rtPp l) p) l.length s = x at hd hg
  refine ⟨rfl, rfl, rfl, fun X hX => am_run hX 4 _ _ _ _ ?_⟩
  conv => whnf
  refine am_c1 (ct_goOn (d := d) h ha hp hs) ?_
  rw [hx]
  refine am_run hX 7 _ _ _ _ ?_
  conv => whnf
  rw [show (300 : Int32) * nI c + nI s = nI (300 * c + (s + 0)) from by rw [show (300 : Int32) = nI 300 from rfl, nI_mul, nI_add]; rfl]
  exact ly_l (d := d) (M := M) (L := L) hX h hb hc h6 ha hp hd (fun N a b => ⟨rfl, a, b⟩) (x - s) 0 M none none (by omega) (mqF_r b M) (by show llw M b (L ++ []); rw [List.append_nil]; exact hL)
end RTG
