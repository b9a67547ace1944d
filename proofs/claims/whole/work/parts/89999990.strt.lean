/-! ROWS made straight: straighten, reduceRows -/
section SRU
variable {e : Nat} {M : mm_M} {n : Nat} {Y : Nat → RW}
theorem sw_cm (Y : Nat → RW) (a b : Nat) : swR Y a b = swR Y b a := funext fun j => by
  unfold swR
  by_cases h : j = a
  · rw [if_pos h]
    by_cases k : j = b
    · rw [if_pos k, ← h, ← k]
    · rw [if_neg k, if_pos h]
  · rw [if_neg h]
    by_cases k : j = b
    · rw [if_pos k, if_pos k]
    · rw [if_neg k, if_neg k, if_neg h]
set_option maxRecDepth 100000 in
theorem sg_o {P : am_Q} {X : am_X} (hX : am_K (e + 3) false nm_X8_straighten P X) (h3 : M.1 25 3 = nI n) (h4 : M.1 25 4 = 0) (n20 : n ≤ 20) (hR : ∀ j, j < n → rw_n n (Y j)) (hK : ∀ Z, X 162 (some (aR 25) :: Z) [] (gA M (redR n Y) n)) : ∀ (m c : Nat) (l3 l4 l5 l6 : Option am_V), c + m = 2 * n → X 4 [some (aR 25), some (aI (nI (rdR n Y c).2)), some (aI (nI c)), l3, l4, l5, l6] [] (gA M (rdR n Y c).1 n) := by
  intro m
  induction m with
  | zero =>
    intro c l3 l4 l5 l6 hc
    have hc : c = 2 * n := by omega
    subst hc
    refine am_run hX 6 _ _ _ _ ?_
    conv => whnf
    rw [show (gA M (rdR n Y (2 * n)).1 n).1 25 3 = nI n from h3, show (2 : Int32) * nI n = nI (2 * n) from by rw [show (2 : Int32) = nI 2 from rfl, nI_mul]]
    exact ⟨fun _ => hK _, fun q => absurd (nI_le (Nat.le_refl _) (by omega)) q⟩
  | succ m ih =>
    intro c l3 l4 l5 l6 hc
    have ih := ih (c + 1)
    have ⟨p, pv⟩ := pv_all n Y c
    have dn := pv.1
    have hRc := rd_n hR c
    have es : rdR n Y (c + 1) = stR n c (rdR n Y c) := rfl
    rw [es] at ih
    unfold stR at ih
    have f := fd_p n (rdR n Y c).1 c (n - (rdR n Y c).2) (rdR n Y c).2
    clear es pv
    generalize rdR n Y c = a at *
    obtain ⟨Z, d⟩ := a
    dsimp only at ih f hRc dn ⊢
    obtain ⟨f1, f2, f3, f4⟩ := f
    refine am_run hX 6 _ _ _ _ ?_
    conv => whnf
    rw [show (gA M Z n).1 25 3 = nI n from h3, show (2 : Int32) * nI n = nI (2 * n) from by rw [show (2 : Int32) = nI 2 from rfl, nI_mul]]
    refine ⟨fun q => absurd q (nI_ge (by omega) (by omega)), fun _ => ?_⟩
    refine am_run hX 3 _ _ _ _ ?_
    conv => whnf
    rw [show (gA M Z n).1 25 4 = 0 from h4]
    refine ⟨fun q => absurd rfl q, fun _ => ?_⟩
    refine am_run hX 4 _ _ _ _ ?_
    conv => whnf
    rw [show (gA M Z n).1 25 3 = nI n from h3]
    by_cases cc : c < n
    · refine ⟨fun q => absurd q (nI_ge cc (by omega)), fun _ => ?_⟩
      refine am_run hX 8 _ _ _ _ ?_
      conv => whnf
      rw [show (gA M Z n).1 25 3 = nI n from h3]
      refine ⟨fun q => absurd q (nI_ge cc (by omega)), fun _ => ?_⟩
      refine am_run hX 5 _ _ _ _ ?_
      conv => whnf
      refine sg_f26 hX h3 n20 cc (by omega) hRc ?_ (n - d) d (by omega) rfl
      generalize fdR n Z c (n - d) d = K at *
      refine am_run hX 4 _ _ _ _ ?_
      conv => whnf
      rw [show (gA M Z n).1 25 3 = nI n from h3]
      by_cases kn : K = n
      · rw [if_pos kn] at ih
        refine ⟨fun q => absurd q (nI_nlt (by omega) (by omega)), fun _ => ?_⟩
        refine am_run hX 3 _ _ _ _ ?_
        conv => whnf
        rw [nI_1]
        exact ih _ _ _ _ (by omega)
      · rw [if_neg kn] at ih
        have kl : K < n := by omega
        refine ⟨fun _ => ?_, fun q => absurd (nI_lt kl (by omega)) q⟩
        refine am_run hX 6 _ _ _ _ ?_
        conv => whnf
        refine am_c0 (ct_swA (by omega) (by omega) (gAx_d kl) (gAx_d (show d < n by omega))) ?_
        rw [gAx_u kl, gAx_u (show d < n by omega), up_sw]
        conv => whnf
        refine sg_m26 (Y := swR Z K d) hX h3 n20 cc (by omega) (by omega) (sw_n kl (by omega) hRc) (fun l6 => ?_) n 0 (by omega)
        refine am_run hX 3 _ _ _ _ ?_
        conv => whnf
        rw [nI_1, nI_1]
        exact ih _ _ _ _ (by omega)
    · refine ⟨fun _ => ?_, fun q => absurd (nI_le (by omega) (by omega)) q⟩
      refine am_run hX 7 _ _ _ _ ?_
      conv => whnf
      rw [show (gA M Z n).1 25 3 = nI n from h3]
      refine ⟨fun _ => ?_, fun q => absurd (nI_le (by omega) (by omega)) q⟩
      refine am_run hX 7 _ _ _ _ ?_
      conv => whnf
      rw [show (gA M Z n).1 25 3 = nI n from h3, nI_sub (by omega)]
      refine sg_f27 hX h3 n20 cc (by omega) hRc ?_ (n - d) d (by omega) rfl
      generalize fdR n Z c (n - d) d = K at *
      refine am_run hX 4 _ _ _ _ ?_
      conv => whnf
      rw [show (gA M Z n).1 25 3 = nI n from h3]
      by_cases kn : K = n
      · rw [if_pos kn] at ih
        refine ⟨fun q => absurd q (nI_nlt (by omega) (by omega)), fun _ => ?_⟩
        refine am_run hX 3 _ _ _ _ ?_
        conv => whnf
        rw [nI_1]
        exact ih _ _ _ _ (by omega)
      · rw [if_neg kn] at ih
        have kl : K < n := by omega
        refine ⟨fun _ => ?_, fun q => absurd (nI_lt kl (by omega)) q⟩
        refine am_run hX 6 _ _ _ _ ?_
        conv => whnf
        refine am_c0 (ct_swA (by omega) (by omega) (gAx_d kl) (gAx_d (show d < n by omega))) ?_
        rw [gAx_u kl, gAx_u (show d < n by omega), up_sw]
        conv => whnf
        refine sg_m27 (Y := swR Z K d) hX h3 n20 cc (by omega) (by omega) (sw_n kl (by omega) hRc) (fun l6 => ?_) n 0 (by omega)
        refine am_run hX 3 _ _ _ _ ?_
        conv => whnf
        rw [nI_1, nI_1]
        exact ih _ _ _ _ (by omega)
set_option maxRecDepth 100000 in
theorem ct_str0 (h3 : M.1 25 3 = nI n) (h4 : M.1 25 4 = 0) (n20 : n ≤ 20) (hR : ∀ j, j < n → rw_n n (Y j)) : am_M (e + 4) false nm_X8_straighten [aR 25] (gA M Y n) (am_q0 (mm_i (gA M (redR n Y) n) 25 (upd (M.1 25) 4 1))) := by
  refine ⟨rfl, rfl, rfl, fun X hX => am_run hX 4 _ _ _ _ ?_⟩
  conv => whnf
  refine sg_o hX h3 h4 n20 hR (fun Z => ?_) (2 * n) 0 none none none none (by omega)
  refine am_run hX 6 _ _ _ _ ?_
  conv => whnf
  refine ⟨⟨rfl, rfl⟩, ?_⟩
  conv => whnf
  exact ⟨trivial, rfl, rfl⟩
set_option maxRecDepth 100000 in
theorem ct_str1 (h3 : M.1 25 3 = nI n) (n20 : n ≤ 20) (h4 : M.1 25 4 = 1) : am_M (e + 4) false nm_X8_straighten [aR 25] M (am_q0 M) := by
  have fin : ∀ {P : am_Q} {X : am_X} (hX : am_K (e + 3) false nm_X8_straighten P X), P (.inl none) M → ∀ Z, X 162 (some (aR 25) :: Z) [] M := by
    intro P X hX hP Z
    refine am_run hX 6 _ _ _ _ ?_
    conv => whnf
    refine ⟨⟨rfl, rfl⟩, ?_⟩
    conv => whnf
    rw [show mm_i M 25 (upd (M.1 25) 4 1) = M from by rw [← h4, upd_self, mm_iz]]
    exact ⟨trivial, hP⟩
  refine ⟨rfl, rfl, rfl, fun X hX => am_run hX 10 _ _ _ _ ?_⟩
  conv => whnf
  refine ⟨fun _ => fin hX ⟨rfl, rfl⟩ _, fun _ => ?_⟩
  refine am_run hX 3 _ _ _ _ ?_
  conv => whnf
  rw [h4]
  exact ⟨fun _ => fin hX ⟨rfl, rfl⟩ _, fun q => absurd (by decide) q⟩
set_option maxRecDepth 100000 in
theorem rr_f {P : am_Q} {X : am_X} {c d K : Nat} {l4 : Option am_V} (hX : am_K (e + 1) false nm_X12_reduceRows P X) (h3 : M.1 108 81 = nI n) (n20 : n ≤ 20) (c2 : c < 2 * n) (hR : ∀ j, j < n → rw_n n (Y j)) (hK : X 53 [some (aR 108), some (aI (nI d)), some (aI (nI c)), some (aI (nI K)), l4] [] (gB M Y n)) : ∀ (m k : Nat), k + m = n → fdR n Y c m k = K → X 16 [some (aR 108), some (aI (nI d)), some (aI (nI c)), some (aI (nI k)), l4] [] (gB M Y n) := by
  intro m
  induction m with
  | zero =>
    intro k hk hE
    have hE : k = K := hE
    subst hE
    refine am_run hX 4 _ _ _ _ ?_
    conv => whnf
    rw [show (gB M Y n).1 108 81 = nI n from h3]
    exact ⟨fun _ => hK, fun q => absurd (nI_le (by omega) (by omega)) q⟩
  | succ m ih =>
    intro k hk hE
    have kn : k < n := by omega
    have r := rw_20 n20 (hR k kn)
    have hE : (if hb n (Y k) c = 1 then k else fdR n Y c m (k + 1)) = K := hE
    refine am_run hX 4 _ _ _ _ ?_
    conv => whnf
    rw [show (gB M Y n).1 108 81 = nI n from h3]
    refine ⟨fun q => absurd q (nI_ge kn (by omega)), fun _ => ?_⟩
    refine am_run hX 13 _ _ _ _ ?_
    conv => whnf
    refine ⟨vp_in_nI (by show k < 20; omega) (by decide), ?_⟩
    conv => whnf
    refine ⟨vp_in_nI (by show k < 20; omega) (by decide), ?_⟩
    conv => whnf
    have v := gBx_d (M := M) (Y := Y) kn
    rw [nI_clamp (n := k) (by omega), v.1, v.2.1, show (gB M Y n).1 108 81 = nI n from h3]
    refine am_c1 (ct_has r n20 c2) ?_
    conv => whnf
    have b2 := hb_2 n (Y k) c
    by_cases q : hb n (Y k) c = 0
    · rw [if_neg (by omega)] at hE
      rw [q]
      refine ⟨fun z => absurd rfl z, fun _ => ?_⟩
      refine am_run hX 2 _ _ _ _ ?_
      conv => whnf
      rw [nI_1]
      exact ih (k + 1) (by omega) hE
    · have q1 : hb n (Y k) c = 1 := by omega
      rw [if_pos q1] at hE
      rw [q1, hE]
      exact ⟨fun _ => hK, fun z => absurd (by decide) z⟩
set_option maxRecDepth 100000 in
theorem rr_m {P : am_Q} {X : am_X} {c d : Nat} {k3 : Int32} (hX : am_K (e + 2) false nm_X12_reduceRows P X) (h3 : M.1 108 81 = nI n) (n20 : n ≤ 20) (c2 : c < 2 * n) (hd : d < n) (hR : ∀ j, j < n → rw_n n (Y j)) (hC : allc n Y) (hK : ∀ l4, X 126 [some (aR 108), some (aI (nI d)), some (aI (nI c)), some (aI k3), l4] [] (gB M (mlR n c d Y n) n)) : ∀ (m i : Nat), i + m = n → X 73 [some (aR 108), some (aI (nI d)), some (aI (nI c)), some (aI k3), some (aI (nI i))] [] (gB M (mlR n c d Y i) n) := by
  intro m
  induction m with
  | zero =>
    intro i hi
    have hi : i = n := by omega
    subst hi
    refine am_run hX 4 _ _ _ _ ?_
    conv => whnf
    rw [show (gB M (mlR i c d Y i) i).1 108 81 = nI i from h3]
    exact ⟨fun _ => hK _, fun q => absurd (nI_le (Nat.le_refl _) (by omega)) q⟩
  | succ m ih =>
    intro i hi
    have kn : i < n := by omega
    have rn := ml_n (c := c) hd hR i i kn
    have rdn := ml_n (c := c) hd hR i d hd
    have r := rw_20 n20 rn
    have rd := rw_20 n20 rdn
    have ih := ih (i + 1) (by omega)
    refine am_run hX 4 _ _ _ _ ?_
    conv => whnf
    rw [show (gB M (mlR n c d Y i) n).1 108 81 = nI n from h3]
    refine ⟨fun q => absurd q (nI_ge kn (by omega)), fun _ => ?_⟩
    have skip : ¬ (i ≠ d ∧ hb n (mlR n c d Y i i) c = 1) → X 120 [some (aR 108), some (aI (nI d)), some (aI (nI c)), some (aI k3), some (aI (nI i))] [] (gB M (mlR n c d Y i) n) := fun q => by
      rw [ml_k q] at ih
      refine am_run hX 2 _ _ _ _ ?_
      conv => whnf
      rw [nI_1]
      exact ih
    refine am_run hX 3 _ _ _ _ ?_
    conv => whnf
    refine ⟨fun q => skip fun z => z.1 ((nI_eq (by omega) (by omega)).mp q), fun q => ?_⟩
    have ne : i ≠ d := fun z => q (by rw [z])
    refine am_run hX 13 _ _ _ _ ?_
    conv => whnf
    refine ⟨vp_in_nI (by show i < 20; omega) (by decide), ?_⟩
    conv => whnf
    refine ⟨vp_in_nI (by show i < 20; omega) (by decide), ?_⟩
    conv => whnf
    have v := gBx_d (M := M) (Y := mlR n c d Y i) kn
    rw [nI_clamp (n := i) (by omega), v.1, v.2.1, show (gB M (mlR n c d Y i) n).1 108 81 = nI n from h3]
    refine am_c1 (ct_has r n20 c2) ?_
    conv => whnf
    have b2 := hb_2 n (mlR n c d Y i i) c
    by_cases q : hb n (mlR n c d Y i i) c = 0
    · rw [q]
      exact ⟨fun _ => skip fun z => by omega, fun z => absurd rfl z⟩
    · have q1 : hb n (mlR n c d Y i i) c = 1 := by omega
      rw [ml_s ne q1] at ih
      rw [q1]
      refine ⟨fun z => absurd z (by decide), fun _ => ?_⟩
      refine am_run hX 6 _ _ _ _ ?_
      conv => whnf
      refine am_c0 (ct_mulB (d := e) (by omega) (by omega) n20 h3 v (gBx_d hd) r rd) ?_
      conv => whnf
      rw [nI_1, gBx_u kn, ← mul_eq (by omega) rn.1 rn.2.1 rdn.1 rn.2.2 rdn.2.2 (ml_c hd hC i i d kn hd)]
      exact ih
set_option maxRecDepth 100000 in
theorem rr_o {P : am_Q} {X : am_X} (hX : am_K (e + 2) false nm_X12_reduceRows P X) (h3 : M.1 108 81 = nI n) (n20 : n ≤ 20) (hR : ∀ j, j < n → rw_n n (Y j)) (hC : allc n Y) (hK : ∀ Z, X 135 Z [] (gB M (redR n Y) n)) : ∀ (m c : Nat) (l3 l4 : Option am_V), c + m = 2 * n → X 4 [some (aR 108), some (aI (nI (rdR n Y c).2)), some (aI (nI c)), l3, l4] [] (gB M (rdR n Y c).1 n) := by
  intro m
  induction m with
  | zero =>
    intro c l3 l4 hc
    have hc : c = 2 * n := by omega
    subst hc
    refine am_run hX 6 _ _ _ _ ?_
    conv => whnf
    rw [show (gB M (rdR n Y (2 * n)).1 n).1 108 81 = nI n from h3, show (2 : Int32) * nI n = nI (2 * n) from by rw [show (2 : Int32) = nI 2 from rfl, nI_mul]]
    exact ⟨fun _ => hK _, fun q => absurd (nI_le (Nat.le_refl _) (by omega)) q⟩
  | succ m ih =>
    intro c l3 l4 hc
    have ih := ih (c + 1)
    have ⟨p, pv⟩ := pv_all n Y c
    have dn := pv.1
    have hRc := rd_n hR c
    have hCc := rd_c hC c
    have es : rdR n Y (c + 1) = stR n c (rdR n Y c) := rfl
    rw [es] at ih
    unfold stR at ih
    have f := fd_p n (rdR n Y c).1 c (n - (rdR n Y c).2) (rdR n Y c).2
    clear es pv
    generalize rdR n Y c = a at *
    obtain ⟨Z, d⟩ := a
    dsimp only at ih f hRc hCc dn ⊢
    obtain ⟨f1, f2, f3, f4⟩ := f
    refine am_run hX 6 _ _ _ _ ?_
    conv => whnf
    rw [show (gB M Z n).1 108 81 = nI n from h3, show (2 : Int32) * nI n = nI (2 * n) from by rw [show (2 : Int32) = nI 2 from rfl, nI_mul]]
    refine ⟨fun q => absurd q (nI_ge (by omega) (by omega)), fun _ => ?_⟩
    refine am_run hX 2 _ _ _ _ ?_
    conv => whnf
    refine rr_f (e := e + 1) hX h3 n20 (by omega) hRc ?_ (n - d) d (by omega) rfl
    generalize fdR n Z c (n - d) d = K at *
    refine am_run hX 4 _ _ _ _ ?_
    conv => whnf
    rw [show (gB M Z n).1 108 81 = nI n from h3]
    by_cases kn : K = n
    · rw [if_pos kn] at ih
      refine ⟨fun q => absurd (by rw [kn]) q, fun _ => ?_⟩
      refine am_run hX 3 _ _ _ _ ?_
      conv => whnf
      rw [nI_1]
      exact ih _ _ (by omega)
    · rw [if_neg kn] at ih
      have kl : K < n := by omega
      have dl : d < n := by omega
      refine ⟨fun _ => ?_, fun q => absurd ((nI_eq (by omega) (by omega)).mp (Decidable.byContradiction q)) kn⟩
      refine am_run hX 6 _ _ _ _ ?_
      conv => whnf
      refine am_c0 (ct_swB (by omega) (by omega) (gBx_d dl) (gBx_d kl)) ?_
      rw [gBx_u dl, gBx_u kl, up_sw, sw_cm]
      conv => whnf
      refine rr_m (Y := swR Z K d) hX h3 n20 (by omega) dl (sw_n kl dl hRc) (sw_c kl dl hCc) (fun l4 => ?_) n 0 (by omega)
      refine am_run hX 3 _ _ _ _ ?_
      conv => whnf
      rw [nI_1, nI_1]
      exact ih _ _ (by omega)
set_option maxRecDepth 100000 in
theorem ct_rr (h3 : M.1 108 81 = nI n) (n20 : n ≤ 20) (hR : ∀ j, j < n → rw_n n (Y j)) (hC : allc n Y) : am_M (e + 3) false nm_X12_reduceRows [aR 108] (gB M Y n) (am_q0 (gB M (redR n Y) n)) := by
  refine ⟨rfl, rfl, rfl, fun X hX => am_run hX 4 _ _ _ _ ?_⟩
  conv => whnf
  refine rr_o hX h3 n20 hR hC (fun Z => ?_) (2 * n) 0 none none (by omega)
  refine am_run hX 1 _ _ _ _ ?_
  conv => whnf
  exact ⟨trivial, rfl, rfl⟩
end SRU
