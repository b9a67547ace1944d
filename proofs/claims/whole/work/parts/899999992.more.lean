/-! a circuit with one more CONTROL -/
def adX (W : Nat) (x : bk_X) : bk_X := (x.1, x.2.1, x.2.2.1, x.2.2.2.1 + 2 ^ W, x.2.2.2.2)
theorem lor_sp (k x y m p : Nat) (hx : x < 2 ^ k) (hm : m < 2 ^ k) : (2 ^ k * y + x) ||| (2 ^ k * p + m) = 2 ^ k * (y ||| p) + (x ||| m) := by
  apply Nat.eq_of_testBit_eq
  intro i
  have hxm : x ||| m < 2 ^ k := Nat.or_lt_two_pow hx hm
  rw [Nat.testBit_or, Nat.testBit_two_pow_mul_add _ hx, Nat.testBit_two_pow_mul_add _ hm, Nat.testBit_two_pow_mul_add _ hxm]
  by_cases h : i < k
  · simp [h]
  · simp [h]
theorem w_ad {W : Nat} {x : bk_X} (h : bk_w W x) : bk_w (W + 1) (adX W x) := by
  obtain ⟨h1, h2, h3, h4, h5, h6⟩ := h
  exact ⟨h1, by show x.2.1 < W + 1; omega, h3, by show x.2.2.2.1 + 2 ^ W < 2 ^ (W + 1); rw [Nat.pow_succ]; omega, h5, h6⟩
theorem ad_p {W : Nat} {x : bk_X} (w7 : W ≤ 7) (h : bk_w W x) : nI (bk_p x) ||| nI (2 ^ W) <<< ((10 : Int32) &&& 31) = nI (bk_p (adX W x)) := by
  obtain ⟨h1, h2, h3, h4, h5, h6⟩ := h
  have p8 : 2 ^ W ≤ 2 ^ 7 := Nat.pow_le_pow_right (by decide) w7
  rw [show nI (2 ^ W) <<< ((10 : Int32) &&& 31) = nI (2 ^ W * 2 ^ 10) from nI_shl (by decide) (by show 2 ^ W * 1024 < 4294967296; omega), nI_or]
  congr 1
  have e : bk_p x = 2 ^ 18 * (x.2.2.2.2.1 + 16 * x.2.2.2.2.2) + (x.1 + 16 * x.2.1 + 128 * x.2.2.1 + 1024 * x.2.2.2.1) := by unfold bk_p; omega
  have e2 : x.1 + 16 * x.2.1 + 128 * x.2.2.1 + 1024 * x.2.2.2.1 < 2 ^ (W + 10) := by
    rw [Nat.pow_add]
    omega
  rw [e, show 2 ^ W * 2 ^ 10 = 2 ^ 18 * 0 + 2 ^ W * 2 ^ 10 by omega, lor_sp 18 _ _ _ _ (by omega) (by omega), Nat.or_zero, show 2 ^ W * 2 ^ 10 = 1 * 2 ^ (W + 10) by rw [Nat.pow_add]; omega, or_sh e2]
  show _ = x.1 + 16 * x.2.1 + 128 * x.2.2.1 + 1024 * (x.2.2.2.1 + 2 ^ W) + 262144 * x.2.2.2.2.1 + 4194304 * x.2.2.2.2.2
  rw [Nat.pow_add]
  omega
section ADC
variable {d : Nat} {M : mm_M}
set_option maxRecDepth 100000 in
theorem pc_l {P : am_Q} {X : am_X} {n c W : Nat} {l l0 : List bk_X} (hX : am_K (d + 3) false nm_X0_putAll P X) (hb : bk_iv M n) (hc : c < n) (hC : bk_c M c W l.length) (hl : opsL M c W l) (w7 : W ≤ 7) (h0 : l0.length < 100000) (hK : ∀ l3, X 33 [some (aR 9), some (aI (nI c)), some (aI (nI (2 ^ W))), l3] [] (dlM M (l0 ++ l.map (adX W)))) : ∀ (m i : Nat), i + m = l.length → X 2 [some (aR 9), some (aI (nI c)), some (aI (nI (2 ^ W))), some (aI (nI i))] [] (dlM M (l0 ++ (l.take i).map (adX W))) := by
  obtain ⟨g1, g2, g3, g4⟩ := hl
  have hn := hb.1
  intro m
  induction m with
  | zero =>
    intro i hi
    have hi : i = l.length := by omega
    subst hi
    refine am_run hX 6 _ _ _ _ ?_
    conv => whnf
    refine ⟨vp_in_nI (by show c < 20; omega) (by decide), ?_⟩
    conv => whnf
    rw [nI_clamp (n := c) (by omega), dl_r _ _ (by decide) (by decide), g1, List.take_length]
    exact ⟨fun _ => hK _, fun q => absurd (nI_le (Nat.le_refl _) (by omega)) q⟩
  | succ m ih =>
    intro i hi
    have ih := ih (i + 1) (by omega)
    rw [tk_s l (by omega), List.map_append, ← List.append_assoc] at ih
    have o := (g4 i (by omega)).2.1
    refine am_run hX 6 _ _ _ _ ?_
    conv => whnf
    refine ⟨vp_in_nI (by show c < 20; omega) (by decide), ?_⟩
    conv => whnf
    rw [nI_clamp (n := c) (by omega), dl_r _ _ (by decide) (by decide), g1]
    refine ⟨fun q => absurd q (nI_ge (by omega) (by omega)), fun _ => ?_⟩
    refine am_run hX 12 _ _ _ _ ?_
    conv => whnf
    refine am_c1 (bk_at (d := d) (bk_dl _ hb) hc (bk_dc _ hC) (show i < l.length by omega)) ?_
    conv => whnf
    rw [dl_r _ _ (by decide) (by decide), o]
    refine am_c0 (ct_putL (x := adX W (zg l i)) (ad_p w7 (g4 i (by omega)).1) (by
      have : (l0 ++ (l.take i).map (adX W)).length ≤ l0.length + 300 := by simp; omega
      omega)) ?_
    conv => whnf
    rw [nI_1]
    exact ih
set_option maxRecDepth 100000 in
theorem ct_putC {n c W : Nat} {l l0 : List bk_X} (hb : bk_iv M n) (hc : c < n) (hC : bk_c M c W l.length) (hl : opsL M c W l) (w7 : W ≤ 7) (h0 : l0.length < 100000) : am_M (d + 4) false nm_X0_putAll [aR 9, aI (nI c), aI (nI (2 ^ W))] (dlM M l0) (am_q0 (dlM M (l0 ++ l.map (adX W)))) := by
  refine ⟨rfl, rfl, rfl, fun X hX => am_run hX 2 _ _ _ _ ?_⟩
  conv => whnf
  have k := pc_l hX hb hc hC hl w7 h0 (fun l3 => by
    refine am_run hX 1 _ _ _ _ ?_
    conv => whnf
    exact ⟨trivial, rfl, rfl⟩) l.length 0 (by omega)
  rw [List.take_zero, List.map_nil, List.append_nil] at k
  exact k
set_option maxRecDepth 100000 in
theorem cq_l {P : am_Q} {X : am_X} {n c W : Nat} {l l0 : List bk_X} (hX : am_K (d + 1) false nm_X12_copy P X) (h6 : M.1 108 6 = nI n) (hn : n < 20) (hc : c < n) (hl : opsL M c W l) (w7 : W ≤ 7) (hK : ∀ l4 l5, X 113 [some (aR 108), some (aI (nI c)), some (aI 0), some (aI (nI (2 ^ W))), l4, l5] [] (llM M n (l0 ++ l.map (adX W)))) : ∀ (m i : Nat) (l5 : Option am_V), i + m = l.length → X 3 [some (aR 108), some (aI (nI c)), some (aI 0), some (aI (nI (2 ^ W))), some (aI (nI i)), l5] [] (llM M n (l0 ++ (l.take i).map (adX W))) := by
  obtain ⟨g1, g2, g3, g4⟩ := hl
  intro m
  induction m with
  | zero =>
    intro i l5 hi
    have hi : i = l.length := by omega
    subst hi
    refine am_run hX 6 _ _ _ _ ?_
    conv => whnf
    refine ⟨vp_in_nI (by show c < 21; omega) (by decide), ?_⟩
    conv => whnf
    rw [nI_clamp (n := c) (by omega), ll_r _ _ _ (by decide) (by decide), g2, List.take_length]
    exact ⟨fun _ => hK _ _, fun q => absurd (nI_le (Nat.le_refl _) (by omega)) q⟩
  | succ m ih =>
    intro i l5 hi
    have ih := ih (i + 1) (some (aI (nI (300 * c + i)))) (by omega)
    rw [tk_s l (by omega), List.map_append, ← List.append_assoc] at ih
    have ⟨w, o1, o2, o3, o4, o5, o6, o7⟩ := g4 i (by omega)
    have ab : 300 * c + i < 300 * n := by omega
    refine am_run hX 6 _ _ _ _ ?_
    conv => whnf
    refine ⟨vp_in_nI (by show c < 21; omega) (by decide), ?_⟩
    conv => whnf
    rw [nI_clamp (n := c) (by omega), ll_r _ _ _ (by decide) (by decide), g2]
    refine ⟨fun q => absurd q (nI_ge (by omega) (by omega)), fun _ => ?_⟩
    refine am_run hX 5 _ _ _ _ ?_
    conv => whnf
    refine ⟨fun _ => ?_, fun q => absurd rfl q⟩
    refine am_run hX 6 _ _ _ _ ?_
    conv => whnf
    rw [show (300 : Int32) * nI c + nI i = nI (300 * c + i) from by rw [show (300 : Int32) = nI 300 from rfl, nI_mul, nI_add]]
    refine ⟨fun _ => ?_, fun q => absurd rfl q⟩
    refine am_run hX 29 _ _ _ _ ?_
    conv => whnf
    refine ⟨vp_in_nI (by show 300 * c + i < 6300; omega) (by decide), ?_⟩
    conv => whnf
    refine ⟨vp_in_nI (by show 300 * c + i < 6300; omega) (by decide), ?_⟩
    conv => whnf
    refine ⟨vp_in_nI (by show 300 * c + i < 6300; omega) (by decide), ?_⟩
    conv => whnf
    refine ⟨vp_in_nI (by show 300 * c + i < 6300; omega) (by decide), ?_⟩
    conv => whnf
    refine ⟨vp_in_nI (by show 300 * c + i < 6300; omega) (by decide), ?_⟩
    conv => whnf
    refine ⟨vp_in_nI (by show 300 * c + i < 6300; omega) (by decide), ?_⟩
    conv => whnf
    rw [nI_clamp (n := 300 * c + i) (by omega), ll_112 _ _ ab, ll_113 _ _ ab, ll_114 _ _ ab, ll_115 _ _ ab, ll_116 _ _ ab, ll_117 _ _ ab, o2, o3, o4, o5, o6, o7, show nI (zg l i).2.2.2.1 ||| nI (2 ^ W) = nI ((zg l i).2.2.2.1 + 2 ^ W) from by rw [nI_or, show (2 ^ W : Nat) = 1 * 2 ^ W from (Nat.one_mul _).symm, or_sh w.2.2.2.1]]
    refine am_c0 (ct_layL (x := adX W (zg l i)) h6 hn (by show (zg l i).1 < 16;  have := w.1; omega)) ?_
    conv => whnf
    rw [nI_1]
    exact ih
set_option maxRecDepth 100000 in
theorem ct_copyC {n c W : Nat} {l l0 : List bk_X} (h6 : M.1 108 6 = nI n) (hn : n < 20) (hc : c < n) (hl : opsL M c W l) (w7 : W ≤ 7) : am_M (d + 2) false nm_X12_copy [aR 108, aI (nI c), aI 0, aI (nI (2 ^ W))] (llM M n l0) (am_q0 (llM M n (l0 ++ l.map (adX W)))) := by
  refine ⟨rfl, rfl, rfl, fun X hX => am_run hX 2 _ _ _ _ ?_⟩
  conv => whnf
  have k := cq_l (l0 := l0) hX h6 hn hc hl w7 (fun l4 l5 => by
    refine am_run hX 1 _ _ _ _ ?_
    conv => whnf
    exact ⟨trivial, rfl, rfl⟩) l.length 0 none (by omega)
  rw [List.take_zero, List.map_nil, List.append_nil] at k
  exact k
end ADC
