/-! THE CLASS'S apply -/
theorem pm_cg {α : Type} {S S' : Nat → Prop} [∀ i, Decidable (S i)] [∀ i, Decidable (S' i)] {c N m k : Nat} {f h : α → α → α} {ys : Nat → α} (e : ∀ i, i < N → (S i ↔ S' i)) (hk : k < N) (hk2 : k ^^^ c < N) : pm S c f h ys m k = pm S' c f h ys m k := by
  have e1 := e k hk
  have e2 := e _ hk2
  unfold pm
  by_cases h1 : S k ∧ k < m
  · rw [if_pos h1, if_pos ⟨e1.mp h1.1, h1.2⟩]
  · rw [if_neg h1, if_neg (c := S' k ∧ k < m) (fun q => h1 ⟨e1.mpr q.1, q.2⟩)]
    by_cases h2 : S (k ^^^ c) ∧ k ^^^ c < m
    · rw [if_pos h2, if_pos ⟨e2.mp h2.1, h2.2⟩]
    · rw [if_neg h2, if_neg (c := S' (k ^^^ c) ∧ k ^^^ c < m) (fun q => h2 ⟨e2.mpr q.1, q.2⟩)]
theorem rot_cg {S S' : Nat → Prop} [∀ i, Decidable (S i)] [∀ i, Decidable (S' i)] {F : R4 → R4} {N m k : Nat} {xs : Nat → R4} (e : ∀ i, i < N → (S i ↔ S' i)) (hk : k < N) : rotm S F xs m k = rotm S' F xs m k := by
  have e1 := e k hk
  unfold rotm
  by_cases h1 : S k ∧ k < m
  · rw [if_pos h1, if_pos ⟨e1.mp h1.1, h1.2⟩]
  · rw [if_neg h1, if_neg (fun q => h1 ⟨e1.mpr q.1, q.2⟩)]
/-- a gate that can be -/
def apo (k t s c W : Nat) : Prop := t < W ∧ c < 2 ^ W ∧ c.testBit t = false ∧ (k = 8 → s < W ∧ t ≠ s ∧ c.testBit s = false)
theorem or_lt {a b W : Nat} (ha : a < 2 ^ W) (hb : b < 2 ^ W) : a ||| b < 2 ^ W := Nat.or_lt_two_pow ha hb
theorem iS0 {t c W : Nat} (hW : W ≤ 8) (ht : t < W) (hc : c < 2 ^ W) (h : c.testBit t = false) : ∀ i, i < 2 ^ W → (nI i &&& nI (2 ^ t ||| c) = nI c ↔ gS0 t c i) := fun i hi => by
  have h8 := w256 hW
  have htl : 2 ^ t < 2 ^ W := Nat.pow_lt_pow_right (by decide) ht
  have h1 : i &&& (2 ^ t ||| c) < 2 ^ W := Nat.and_lt_two_pow _ (or_lt htl hc)
  rw [nI_and, nI_eq (by omega) (by omega), gb_0 h]
theorem iS1 {t c W : Nat} (hW : W ≤ 8) (ht : t < W) (hc : c < 2 ^ W) (h : c.testBit t = false) : ∀ i, i < 2 ^ W → (nI i &&& nI (2 ^ t ||| c) = nI (2 ^ t ||| c) ↔ gS1 t c i) := fun i hi => by
  have h8 := w256 hW
  have htl : 2 ^ t < 2 ^ W := Nat.pow_lt_pow_right (by decide) ht
  have h0 := or_lt htl hc
  have h1 : i &&& (2 ^ t ||| c) < 2 ^ W := Nat.and_lt_two_pow _ h0
  rw [nI_and, nI_eq (by omega) (by omega), gb_1 h]
theorem iSw {t s c W : Nat} (hW : W ≤ 8) (ht : t < W) (hs : s < W) (hn : t ≠ s) (hc : c < 2 ^ W) (h : c.testBit t = false) (h2 : c.testBit s = false) : ∀ i, i < 2 ^ W → (nI i &&& nI (2 ^ t ||| 2 ^ s ||| c) = nI (2 ^ t ||| c) ↔ gSw t s c i) := fun i hi => by
  have h8 := w256 hW
  have htl : 2 ^ t < 2 ^ W := Nat.pow_lt_pow_right (by decide) ht
  have hsl : 2 ^ s < 2 ^ W := Nat.pow_lt_pow_right (by decide) hs
  have h0 := or_lt htl hc
  have h3 := or_lt (or_lt htl hsl) hc
  have h1 : i &&& (2 ^ t ||| 2 ^ s ||| c) < 2 ^ W := Nat.and_lt_two_pow _ h3
  rw [nI_and, nI_eq (by omega) (by omega), gb_w hn h h2]
/-- y, put together -/
theorem gy_e {t c W a b : Nat} {S0 S1 : Nat → Prop} [∀ i, Decidable (S0 i)] [∀ i, Decidable (S1 i)] {xs : Nat → R4} (ht : t < W) (h : c.testBit t = false) (e0 : ∀ i, i < 2 ^ W → (S0 i ↔ gS0 t c i)) (e1 : ∀ i, i < 2 ^ W → (S1 i ↔ gS1 t c i)) {k : Nat} (hk : k < 2 ^ W) : rotm S1 (t8n b) (rotm S0 (t8n a) (exm S0 (2 ^ t) xs (2 ^ W)) (2 ^ W)) (2 ^ W) k = pm (gS0 t c) (2 ^ t) (fun _ y => t8n a y) (fun x _ => t8n b x) xs (2 ^ W) k := by
  have htl : 2 ^ t < 2 ^ W := Nat.pow_lt_pow_right (by decide) ht
  have hk2 := xq_lt hk htl
  unfold rotm pm
  by_cases h0 : gS0 t c k
  · have n1 : ¬ S1 k := fun q => by
      have := ((e1 k hk).mp q).2
      rw [h0.2] at this
      exact absurd this (by decide)
    rw [if_neg (fun q => n1 q.1), if_pos ⟨(e0 k hk).mpr h0, hk⟩, if_pos ⟨h0, hk⟩]
    unfold exm
    rw [if_pos (Or.inl ⟨(e0 k hk).mpr h0, hk⟩)]
  · have n0 : ¬ S0 k := fun q => h0 ((e0 k hk).mp q)
    rw [if_neg (c := S0 k ∧ k < 2 ^ W) (fun q => n0 q.1), if_neg (c := gS0 t c k ∧ k < 2 ^ W) (fun q => h0 q.1)]
    by_cases h1 : gS1 t c k
    · have hx : gS0 t c (k ^^^ 2 ^ t) := (g0_x h).mpr h1
      rw [if_pos ⟨(e1 k hk).mpr h1, hk⟩, if_pos ⟨hx, hk2⟩]
      unfold exm
      rw [if_pos (Or.inr ⟨(e0 _ hk2).mpr hx, hk2⟩)]
    · have hx : ¬ gS0 t c (k ^^^ 2 ^ t) := fun q => h1 ((g0_x h).mp q)
      rw [if_neg (fun q => h1 ((e1 k hk).mp q.1)), if_neg (fun q => hx q.1)]
      unfold exm
      rw [if_neg (by
        rintro (q | q)
        · exact n0 q.1
        · exact hx ((e0 _ hk2).mp q.1))]
section APP
variable {d : Nat} {M : mm_M} {g : Nat → Int64}
set_option maxRecDepth 100000 in
theorem ct_wireOf {v : Int32} : am_M (d + 1) false nm_X0_wireOf [aI v] M (am_q1 (aI (v >>> (4 &&& 31) &&& 7)) M) := by
  refine ⟨rfl, rfl, rfl, fun X hX => am_run hX 10 _ _ _ _ ?_⟩
  conv => whnf
  exact ⟨trivial, rfl, rfl⟩
set_option maxRecDepth 100000 in
theorem ct_secondOf {v : Int32} : am_M (d + 1) false nm_X0_secondOf [aI v] M (am_q1 (aI (v >>> (7 &&& 31) &&& 7)) M) := by
  refine ⟨rfl, rfl, rfl, fun X hX => am_run hX 10 _ _ _ _ ?_⟩
  conv => whnf
  exact ⟨trivial, rfl, rfl⟩
set_option maxRecDepth 100000 in
theorem ct_controlsOf {v : Int32} : am_M (d + 1) false nm_X0_controlsOf [aI v] M (am_q1 (aI (v >>> (10 &&& 31) &&& 255)) M) := by
  refine ⟨rfl, rfl, rfl, fun X hX => am_run hX 10 _ _ _ _ ?_⟩
  conv => whnf
  exact ⟨trivial, rfl, rfl⟩
set_option maxRecDepth 100000 in
theorem ct_onesOf {v : Int32} : am_M (d + 1) false nm_X0_onesOf [aI v] M (am_q1 (aI (v >>> (18 &&& 31) &&& 15)) M) := by
  refine ⟨rfl, rfl, rfl, fun X hX => am_run hX 10 _ _ _ _ ?_⟩
  conv => whnf
  exact ⟨trivial, rfl, rfl⟩
set_option maxRecDepth 100000 in
theorem ct_zerosOf {v : Int32} : am_M (d + 1) false nm_X0_zerosOf [aI v] M (am_q1 (aI (v >>> (22 &&& 31) &&& 15)) M) := by
  refine ⟨rfl, rfl, rfl, fun X hX => am_run hX 10 _ _ _ _ ?_⟩
  conv => whnf
  exact ⟨trivial, rfl, rfl⟩
set_option maxRecDepth 100000 in
theorem ct_apH20 {W U sh : Nat} {x : bk_X} {mi : Bool} {xs : Nat → R4} (hW : W ≤ 8) (oW : U ≤ 8) (ow : bk_w U x) (hs : M.1 18 2 = nI (2 ^ W)) (ha : apo x.1 (x.2.1 + sh) (x.2.2.1 + sh) (x.2.2.2.1 * 2 ^ sh) W) (h3 : x.1 = 3) (hsh : sh < 20) : am_M (d + 3) false nm_X6_apply [aR 18, aI (nI (bk_p x)), aI (nI sh), aI (if mi then 1 else 0)] (mm_l M 20 (cq g (2 ^ W) xs)) (am_q0 (mm_l (mm_i M 18 (upd (M.1 18) 3 (M.1 18 3 + 1))) 20 (cq g (2 ^ W) (gx x.1 (x.2.1 + sh) (x.2.2.1 + sh) (x.2.2.2.1 * 2 ^ sh) mi (2 ^ W) xs)))) := by
  obtain ⟨ht, hc, hct, _⟩ := ha
  have hN : 2 ^ W ≤ 256 := by
    have : 2 ^ W ≤ 2 ^ 8 := Nat.pow_le_pow_right (by decide) hW
    omega
  have ex : (gx x.1 (x.2.1 + sh) (x.2.2.1 + sh) (x.2.2.2.1 * 2 ^ sh) mi (2 ^ W) xs) = bh (fun i => i &&& (x.2.2.2.1 * 2 ^ sh) = (x.2.2.2.1 * 2 ^ sh)) (gS0 (x.2.1 + sh) (x.2.2.2.1 * 2 ^ sh)) (2 ^ (x.2.1 + sh)) xs (2 ^ W) := by
    unfold gx
    rw [h3]
    rfl
  rw [ex]
  have hc32 : x.2.2.2.1 * 2 ^ sh < 2 ^ 32 := by omega
  refine ⟨rfl, rfl, rfl, fun X hX => am_run hX 60 _ _ _ _ ?_⟩
  conv => whnf
  refine am_c1 (ct_wireOf (d := d + 1)) ?_
  rw [bk_wi oW ow]
  conv => whnf
  rw [nI_add, sh2 _ (by omega)]
  refine am_c1 (ct_controlsOf (d := d + 1)) ?_
  rw [bk_cc oW ow]
  conv => whnf
  rw [nI_shl (by omega) (by omega)]
  refine am_c1 (ct_kind (d := d + 1)) ?_
  rw [bk_k oW ow]
  rw [h3]
  conv => whnf
  refine ⟨fun c => absurd c (by decide), fun _ => ?_⟩
  conv => whnf
  refine ⟨fun c => absurd c (by decide), fun _ => ?_⟩
  conv => whnf
  refine ⟨fun c => absurd c (by decide), fun _ => ?_⟩
  conv => whnf
  refine ⟨fun _ => ?_, fun c => absurd rfl c⟩
  conv => whnf
  refine am_c0 (ct_blend20 (d := d) hN ht hc hct hs) ?_
  conv => whnf
  exact ⟨trivial, rfl, rfl⟩
set_option maxRecDepth 100000 in
theorem ct_apN20 {W U sh : Nat} {x : bk_X} {mi : Bool} {xs : Nat → R4} (hW : W ≤ 8) (oW : U ≤ 8) (ow : bk_w U x) (hs : M.1 18 2 = nI (2 ^ W)) (ha : apo x.1 (x.2.1 + sh) (x.2.2.1 + sh) (x.2.2.2.1 * 2 ^ sh) W) (h8 : x.1 ≤ 8) (h3 : ¬ x.1 = 3) (hsh : sh < 20) : am_M (d + 4) false nm_X6_apply [aR 18, aI (nI (bk_p x)), aI (nI sh), aI (if mi then 1 else 0)] (mm_l M 20 (cq g (2 ^ W) xs)) (am_q0 (mm_l M 20 (cq g (2 ^ W) (gx x.1 (x.2.1 + sh) (x.2.2.1 + sh) (x.2.2.2.1 * 2 ^ sh) mi (2 ^ W) xs)))) := by
  obtain ⟨ht, hc, hct, h8s⟩ := ha
  have hW8 : W ≤ 8 := by omega
  have hN : 2 ^ W ≤ 256 := by
    have : 2 ^ W ≤ 2 ^ 8 := Nat.pow_le_pow_right (by decide) hW
    omega
  have htl : 2 ^ (x.2.1 + sh) < 2 ^ W := Nat.pow_lt_pow_right (by decide) ht
  have hc32 : x.2.2.2.1 * 2 ^ sh < 2 ^ 32 := by omega
  have e0 := iS0 hW8 ht hc hct
  have e1 := iS1 hW8 ht hc hct
  have hx0 : ∀ i, i < 2 ^ W → nI i &&& nI (2 ^ (x.2.1 + sh) ||| (x.2.2.2.1 * 2 ^ sh)) = nI (x.2.2.2.1 * 2 ^ sh) → i ^^^ 2 ^ (x.2.1 + sh) < 2 ^ W ∧ ¬ nI (i ^^^ 2 ^ (x.2.1 + sh)) &&& nI (2 ^ (x.2.1 + sh) ||| (x.2.2.2.1 * 2 ^ sh)) = nI (x.2.2.2.1 * 2 ^ sh) := fun i hi q => by
    have hi2 := xq_lt hi htl
    exact ⟨hi2, fun q2 => g0_n hct ((e0 i hi).mp q) ((e0 _ hi2).mp q2)⟩
  have rotE : ∀ e k, eig k mi = e → x.1 = k → ¬ k = 0 → ¬ k = 1 → ¬ k = 3 → ¬ k = 8 → cq g (2 ^ W) (rotm (fun i => nI i &&& nI (2 ^ (x.2.1 + sh) ||| (x.2.2.2.1 * 2 ^ sh)) = nI (2 ^ (x.2.1 + sh) ||| (x.2.2.2.1 * 2 ^ sh))) (t8n e) xs (2 ^ W)) = cq g (2 ^ W) (gx x.1 (x.2.1 + sh) (x.2.2.1 + sh) (x.2.2.2.1 * 2 ^ sh) mi (2 ^ W) xs) := by
    intro e k he hk k0 k1 k3 k8
    refine cq_e fun j hj => ?_
    unfold gx
    rw [hk, if_neg k0, if_neg k1, if_neg k3, if_neg k8, he]
    exact rot_cg e1 hj
  refine ⟨rfl, rfl, rfl, fun X hX => am_run hX 100 _ _ _ _ ?_⟩
  conv => whnf
  refine am_c1 (ct_wireOf (d := d + 2)) ?_
  rw [bk_wi oW ow]
  conv => whnf
  rw [nI_add, sh2 _ (by omega)]
  refine am_c1 (ct_controlsOf (d := d + 2)) ?_
  rw [bk_cc oW ow]
  conv => whnf
  rw [nI_shl (by omega) (by omega)]
  refine am_c1 (ct_kind (d := d + 2)) ?_
  rw [bk_k oW ow]
  rcases (by omega : x.1 = 0 ∨ x.1 = 1 ∨ x.1 = 8 ∨ x.1 = 2 ∨ x.1 = 4 ∨ x.1 = 5 ∨ x.1 = 6 ∨ x.1 = 7) with hk | hk | hk | hk | hk | hk | hk | hk
  · rw [hk]
    conv => whnf
    refine ⟨fun _ => ?_, fun c => absurd rfl c⟩
    conv => whnf
    rw [nI_or]
    refine am_c0 (ct_exch20 (d := d + 1) hN hs hx0) ?_
    conv => whnf
    refine ⟨trivial, rfl, congrArg (mm_l M 20) (cq_e fun j hj => ?_)⟩
    rw [exm_pm]
    exact pm_cg e0 hj (xq_lt hj htl)
  · rw [hk]
    conv => whnf
    refine ⟨fun c => absurd c (by decide), fun _ => ?_⟩
    conv => whnf
    refine ⟨fun _ => ?_, fun c => absurd rfl c⟩
    conv => whnf
    rw [nI_or]
    refine am_c0 (ct_exch20 (d := d + 1) hN hs hx0) ?_
    cases mi with
    | false =>
      conv => whnf
      refine ⟨fun _ => ?_, fun c => absurd rfl c⟩
      conv => whnf
      rw [nI_or]
      refine am_c0 (ct_rot20 (d := d + 1) (e := 6) hN hs (by decide)) ?_
      conv => whnf
      refine ⟨fun _ => ?_, fun c => absurd rfl c⟩
      conv => whnf
      rw [nI_or]
      refine am_c0 (ct_rot20 (d := d + 1) (e := 2) hN hs (by decide)) ?_
      conv => whnf
      refine ⟨trivial, rfl, congrArg (mm_l M 20) (cq_e fun j hj => ?_)⟩
      exact gy_e ht hct e0 e1 hj
    | true =>
      conv => whnf
      refine ⟨fun c => absurd c (by decide), fun _ => ?_⟩
      conv => whnf
      rw [nI_or]
      refine am_c0 (ct_rot20 (d := d + 1) (e := 2) hN hs (by decide)) ?_
      conv => whnf
      refine ⟨fun c => absurd c (by decide), fun _ => ?_⟩
      conv => whnf
      rw [nI_or]
      refine am_c0 (ct_rot20 (d := d + 1) (e := 6) hN hs (by decide)) ?_
      conv => whnf
      refine ⟨trivial, rfl, congrArg (mm_l M 20) (cq_e fun j hj => ?_)⟩
      exact gy_e ht hct e0 e1 hj
  · obtain ⟨hs8, hne, hcs⟩ := h8s hk
    have hsl : 2 ^ (x.2.2.1 + sh) < 2 ^ W := Nat.pow_lt_pow_right (by decide) hs8
    have ew := iSw hW8 ht hs8 hne hc hct hcs
    have hxl := Nat.xor_lt_two_pow htl hsl
    have hxw : ∀ i, i < 2 ^ W → nI i &&& nI (2 ^ (x.2.1 + sh) ||| 2 ^ (x.2.2.1 + sh) ||| (x.2.2.2.1 * 2 ^ sh)) = nI (2 ^ (x.2.1 + sh) ||| (x.2.2.2.1 * 2 ^ sh)) → i ^^^ (2 ^ (x.2.1 + sh) ^^^ 2 ^ (x.2.2.1 + sh)) < 2 ^ W ∧ ¬ nI (i ^^^ (2 ^ (x.2.1 + sh) ^^^ 2 ^ (x.2.2.1 + sh))) &&& nI (2 ^ (x.2.1 + sh) ||| 2 ^ (x.2.2.1 + sh) ||| (x.2.2.2.1 * 2 ^ sh)) = nI (2 ^ (x.2.1 + sh) ||| (x.2.2.2.1 * 2 ^ sh)) := fun i hi q => by
      have hi2 := xq_lt hi hxl
      exact ⟨hi2, fun q2 => gw_n hne ((ew i hi).mp q) ((ew _ hi2).mp q2)⟩
    rw [hk]
    conv => whnf
    refine ⟨fun c => absurd c (by decide), fun _ => ?_⟩
    conv => whnf
    refine ⟨fun c => absurd c (by decide), fun _ => ?_⟩
    conv => whnf
    refine ⟨fun c => absurd c (by decide), fun _ => ?_⟩
    conv => whnf
    refine ⟨fun c => absurd c (by decide), fun _ => ?_⟩
    conv => whnf
    refine ⟨fun c => absurd c (by decide), fun _ => ?_⟩
    conv => whnf
    refine ⟨fun c => absurd c (by decide), fun _ => ?_⟩
    conv => whnf
    refine ⟨fun c => absurd c (by decide), fun _ => ?_⟩
    conv => whnf
    refine ⟨fun c => absurd c (by decide), fun _ => ?_⟩
    conv => whnf
    refine ⟨fun _ => ?_, fun c => absurd rfl c⟩
    conv => whnf
    refine am_c1 (ct_secondOf (d := d + 2)) ?_
    rw [bk_s oW ow]
    conv => whnf
    rw [nI_add, sh2 _ (by omega), nI_or, nI_or, nI_or, show nI (2 ^ (x.2.1 + sh) ||| 2 ^ (x.2.2.1 + sh)) = nI (2 ^ (x.2.1 + sh) ^^^ 2 ^ (x.2.2.1 + sh)) from by rw [p_or hne]]
    refine am_c0 (ct_exch20 (d := d + 1) hN hs hxw) ?_
    conv => whnf
    refine ⟨trivial, rfl, congrArg (mm_l M 20) (cq_e fun j hj => ?_)⟩
    rw [exm_pm]
    exact pm_cg ew hj (xq_lt hj hxl)
  · rw [hk]
    conv => whnf
    refine ⟨fun c => absurd c (by decide), fun _ => ?_⟩
    conv => whnf
    refine ⟨fun c => absurd c (by decide), fun _ => ?_⟩
    conv => whnf
    refine ⟨fun _ => ?_, fun c => absurd rfl c⟩
    conv => whnf
    refine ⟨fun c => absurd c (by decide), fun _ => ?_⟩
    conv => whnf
    refine ⟨vp_in_nI (by decide) (by decide), ?_⟩
    conv => whnf
    rw [show (fun j => xp_a1.getD j 0) (nI 2).toNatClampNeg = nI 4 from by decide]
    rw [nI_or]
    cases mi with
    | false =>
      refine ⟨fun _ => ?_, fun c => absurd rfl c⟩
      conv => whnf
      refine am_c0 (ct_rot20 (d := d + 1) (e := 4) hN hs (by decide)) ?_
      rw [rotE 4 2 rfl hk (by decide) (by decide) (by decide) (by decide)]
      conv => whnf
      exact ⟨trivial, rfl, by rw [hk]⟩
    | true =>
      refine ⟨fun c => absurd c (by decide), fun _ => ?_⟩
      conv => whnf
      rw [show (8 - nI 4) &&& 7 = nI 4 from by decide]
      refine am_c0 (ct_rot20 (d := d + 1) (e := 4) hN hs (by decide)) ?_
      rw [rotE 4 2 rfl hk (by decide) (by decide) (by decide) (by decide)]
      conv => whnf
      exact ⟨trivial, rfl, by rw [hk]⟩
  · rw [hk]
    conv => whnf
    refine ⟨fun c => absurd c (by decide), fun _ => ?_⟩
    conv => whnf
    refine ⟨fun c => absurd c (by decide), fun _ => ?_⟩
    conv => whnf
    refine ⟨fun c => absurd c (by decide), fun _ => ?_⟩
    conv => whnf
    refine ⟨fun c => absurd c (by decide), fun _ => ?_⟩
    conv => whnf
    refine ⟨fun _ => ?_, fun c => absurd rfl c⟩
    conv => whnf
    refine ⟨fun c => absurd c (by decide), fun _ => ?_⟩
    conv => whnf
    refine ⟨vp_in_nI (by decide) (by decide), ?_⟩
    conv => whnf
    rw [show (fun j => xp_a1.getD j 0) (nI 4).toNatClampNeg = nI 2 from by decide]
    rw [nI_or]
    cases mi with
    | false =>
      refine ⟨fun _ => ?_, fun c => absurd rfl c⟩
      conv => whnf
      refine am_c0 (ct_rot20 (d := d + 1) (e := 2) hN hs (by decide)) ?_
      rw [rotE 2 4 rfl hk (by decide) (by decide) (by decide) (by decide)]
      conv => whnf
      exact ⟨trivial, rfl, by rw [hk]⟩
    | true =>
      refine ⟨fun c => absurd c (by decide), fun _ => ?_⟩
      conv => whnf
      rw [show (8 - nI 2) &&& 7 = nI 6 from by decide]
      refine am_c0 (ct_rot20 (d := d + 1) (e := 6) hN hs (by decide)) ?_
      rw [rotE 6 4 rfl hk (by decide) (by decide) (by decide) (by decide)]
      conv => whnf
      exact ⟨trivial, rfl, by rw [hk]⟩
  · rw [hk]
    conv => whnf
    refine ⟨fun c => absurd c (by decide), fun _ => ?_⟩
    conv => whnf
    refine ⟨fun c => absurd c (by decide), fun _ => ?_⟩
    conv => whnf
    refine ⟨fun c => absurd c (by decide), fun _ => ?_⟩
    conv => whnf
    refine ⟨fun c => absurd c (by decide), fun _ => ?_⟩
    conv => whnf
    refine ⟨fun c => absurd c (by decide), fun _ => ?_⟩
    conv => whnf
    refine ⟨fun _ => ?_, fun c => absurd rfl c⟩
    conv => whnf
    refine ⟨fun c => absurd c (by decide), fun _ => ?_⟩
    conv => whnf
    refine ⟨vp_in_nI (by decide) (by decide), ?_⟩
    conv => whnf
    rw [show (fun j => xp_a1.getD j 0) (nI 5).toNatClampNeg = nI 1 from by decide]
    rw [nI_or]
    cases mi with
    | false =>
      refine ⟨fun _ => ?_, fun c => absurd rfl c⟩
      conv => whnf
      refine am_c0 (ct_rot20 (d := d + 1) (e := 1) hN hs (by decide)) ?_
      rw [rotE 1 5 rfl hk (by decide) (by decide) (by decide) (by decide)]
      conv => whnf
      exact ⟨trivial, rfl, by rw [hk]⟩
    | true =>
      refine ⟨fun c => absurd c (by decide), fun _ => ?_⟩
      conv => whnf
      rw [show (8 - nI 1) &&& 7 = nI 7 from by decide]
      refine am_c0 (ct_rot20 (d := d + 1) (e := 7) hN hs (by decide)) ?_
      rw [rotE 7 5 rfl hk (by decide) (by decide) (by decide) (by decide)]
      conv => whnf
      exact ⟨trivial, rfl, by rw [hk]⟩
  · rw [hk]
    conv => whnf
    refine ⟨fun c => absurd c (by decide), fun _ => ?_⟩
    conv => whnf
    refine ⟨fun c => absurd c (by decide), fun _ => ?_⟩
    conv => whnf
    refine ⟨fun c => absurd c (by decide), fun _ => ?_⟩
    conv => whnf
    refine ⟨fun c => absurd c (by decide), fun _ => ?_⟩
    conv => whnf
    refine ⟨fun c => absurd c (by decide), fun _ => ?_⟩
    conv => whnf
    refine ⟨fun c => absurd c (by decide), fun _ => ?_⟩
    conv => whnf
    refine ⟨fun _ => ?_, fun c => absurd rfl c⟩
    conv => whnf
    refine ⟨fun c => absurd c (by decide), fun _ => ?_⟩
    conv => whnf
    refine ⟨vp_in_nI (by decide) (by decide), ?_⟩
    conv => whnf
    rw [show (fun j => xp_a1.getD j 0) (nI 6).toNatClampNeg = nI 6 from by decide]
    rw [nI_or]
    cases mi with
    | false =>
      refine ⟨fun _ => ?_, fun c => absurd rfl c⟩
      conv => whnf
      refine am_c0 (ct_rot20 (d := d + 1) (e := 6) hN hs (by decide)) ?_
      rw [rotE 6 6 rfl hk (by decide) (by decide) (by decide) (by decide)]
      conv => whnf
      exact ⟨trivial, rfl, by rw [hk]⟩
    | true =>
      refine ⟨fun c => absurd c (by decide), fun _ => ?_⟩
      conv => whnf
      rw [show (8 - nI 6) &&& 7 = nI 2 from by decide]
      refine am_c0 (ct_rot20 (d := d + 1) (e := 2) hN hs (by decide)) ?_
      rw [rotE 2 6 rfl hk (by decide) (by decide) (by decide) (by decide)]
      conv => whnf
      exact ⟨trivial, rfl, by rw [hk]⟩
  · rw [hk]
    conv => whnf
    refine ⟨fun c => absurd c (by decide), fun _ => ?_⟩
    conv => whnf
    refine ⟨fun c => absurd c (by decide), fun _ => ?_⟩
    conv => whnf
    refine ⟨fun c => absurd c (by decide), fun _ => ?_⟩
    conv => whnf
    refine ⟨fun c => absurd c (by decide), fun _ => ?_⟩
    conv => whnf
    refine ⟨fun c => absurd c (by decide), fun _ => ?_⟩
    conv => whnf
    refine ⟨fun c => absurd c (by decide), fun _ => ?_⟩
    conv => whnf
    refine ⟨fun c => absurd c (by decide), fun _ => ?_⟩
    conv => whnf
    refine ⟨fun _ => ?_, fun c => absurd rfl c⟩
    conv => whnf
    refine ⟨fun c => absurd c (by decide), fun _ => ?_⟩
    conv => whnf
    refine ⟨vp_in_nI (by decide) (by decide), ?_⟩
    conv => whnf
    rw [show (fun j => xp_a1.getD j 0) (nI 7).toNatClampNeg = nI 7 from by decide]
    rw [nI_or]
    cases mi with
    | false =>
      refine ⟨fun _ => ?_, fun c => absurd rfl c⟩
      conv => whnf
      refine am_c0 (ct_rot20 (d := d + 1) (e := 7) hN hs (by decide)) ?_
      rw [rotE 7 7 rfl hk (by decide) (by decide) (by decide) (by decide)]
      conv => whnf
      exact ⟨trivial, rfl, by rw [hk]⟩
    | true =>
      refine ⟨fun c => absurd c (by decide), fun _ => ?_⟩
      conv => whnf
      rw [show (8 - nI 7) &&& 7 = nI 1 from by decide]
      refine am_c0 (ct_rot20 (d := d + 1) (e := 1) hN hs (by decide)) ?_
      rw [rotE 1 7 rfl hk (by decide) (by decide) (by decide) (by decide)]
      conv => whnf
      exact ⟨trivial, rfl, by rw [hk]⟩
set_option maxRecDepth 100000 in
theorem ct_apH107 {W U sh : Nat} {x : bk_X} {mi : Bool} {xs : Nat → R4} (hW : W ≤ 6) (oW : U ≤ 8) (ow : bk_w U x) (hs : M.1 105 2 = nI (2 ^ W)) (ha : apo x.1 (x.2.1 + sh) (x.2.2.1 + sh) (x.2.2.2.1 * 2 ^ sh) W) (h3 : x.1 = 3) (hsh : sh < 20) : am_M (d + 3) false nm_X6_apply [aR 105, aI (nI (bk_p x)), aI (nI sh), aI (if mi then 1 else 0)] (mm_l M 107 (cq g (2 ^ W) xs)) (am_q0 (mm_l (mm_i M 105 (upd (M.1 105) 3 (M.1 105 3 + 1))) 107 (cq g (2 ^ W) (gx x.1 (x.2.1 + sh) (x.2.2.1 + sh) (x.2.2.2.1 * 2 ^ sh) mi (2 ^ W) xs)))) := by
  obtain ⟨ht, hc, hct, _⟩ := ha
  have hN : 2 ^ W ≤ 64 := by
    have : 2 ^ W ≤ 2 ^ 6 := Nat.pow_le_pow_right (by decide) hW
    omega
  have ex : (gx x.1 (x.2.1 + sh) (x.2.2.1 + sh) (x.2.2.2.1 * 2 ^ sh) mi (2 ^ W) xs) = bh (fun i => i &&& (x.2.2.2.1 * 2 ^ sh) = (x.2.2.2.1 * 2 ^ sh)) (gS0 (x.2.1 + sh) (x.2.2.2.1 * 2 ^ sh)) (2 ^ (x.2.1 + sh)) xs (2 ^ W) := by
    unfold gx
    rw [h3]
    rfl
  rw [ex]
  have hc32 : x.2.2.2.1 * 2 ^ sh < 2 ^ 32 := by omega
  refine ⟨rfl, rfl, rfl, fun X hX => am_run hX 60 _ _ _ _ ?_⟩
  conv => whnf
  refine am_c1 (ct_wireOf (d := d + 1)) ?_
  rw [bk_wi oW ow]
  conv => whnf
  rw [nI_add, sh2 _ (by omega)]
  refine am_c1 (ct_controlsOf (d := d + 1)) ?_
  rw [bk_cc oW ow]
  conv => whnf
  rw [nI_shl (by omega) (by omega)]
  refine am_c1 (ct_kind (d := d + 1)) ?_
  rw [bk_k oW ow]
  rw [h3]
  conv => whnf
  refine ⟨fun c => absurd c (by decide), fun _ => ?_⟩
  conv => whnf
  refine ⟨fun c => absurd c (by decide), fun _ => ?_⟩
  conv => whnf
  refine ⟨fun c => absurd c (by decide), fun _ => ?_⟩
  conv => whnf
  refine ⟨fun _ => ?_, fun c => absurd rfl c⟩
  conv => whnf
  refine am_c0 (ct_blend107 (d := d) hN ht hc hct hs) ?_
  conv => whnf
  exact ⟨trivial, rfl, rfl⟩
set_option maxRecDepth 100000 in
theorem ct_apN107 {W U sh : Nat} {x : bk_X} {mi : Bool} {xs : Nat → R4} (hW : W ≤ 6) (oW : U ≤ 8) (ow : bk_w U x) (hs : M.1 105 2 = nI (2 ^ W)) (ha : apo x.1 (x.2.1 + sh) (x.2.2.1 + sh) (x.2.2.2.1 * 2 ^ sh) W) (h8 : x.1 ≤ 8) (h3 : ¬ x.1 = 3) (hsh : sh < 20) : am_M (d + 4) false nm_X6_apply [aR 105, aI (nI (bk_p x)), aI (nI sh), aI (if mi then 1 else 0)] (mm_l M 107 (cq g (2 ^ W) xs)) (am_q0 (mm_l M 107 (cq g (2 ^ W) (gx x.1 (x.2.1 + sh) (x.2.2.1 + sh) (x.2.2.2.1 * 2 ^ sh) mi (2 ^ W) xs)))) := by
  obtain ⟨ht, hc, hct, h8s⟩ := ha
  have hW8 : W ≤ 8 := by omega
  have hN : 2 ^ W ≤ 64 := by
    have : 2 ^ W ≤ 2 ^ 6 := Nat.pow_le_pow_right (by decide) hW
    omega
  have htl : 2 ^ (x.2.1 + sh) < 2 ^ W := Nat.pow_lt_pow_right (by decide) ht
  have hc32 : x.2.2.2.1 * 2 ^ sh < 2 ^ 32 := by omega
  have e0 := iS0 hW8 ht hc hct
  have e1 := iS1 hW8 ht hc hct
  have hx0 : ∀ i, i < 2 ^ W → nI i &&& nI (2 ^ (x.2.1 + sh) ||| (x.2.2.2.1 * 2 ^ sh)) = nI (x.2.2.2.1 * 2 ^ sh) → i ^^^ 2 ^ (x.2.1 + sh) < 2 ^ W ∧ ¬ nI (i ^^^ 2 ^ (x.2.1 + sh)) &&& nI (2 ^ (x.2.1 + sh) ||| (x.2.2.2.1 * 2 ^ sh)) = nI (x.2.2.2.1 * 2 ^ sh) := fun i hi q => by
    have hi2 := xq_lt hi htl
    exact ⟨hi2, fun q2 => g0_n hct ((e0 i hi).mp q) ((e0 _ hi2).mp q2)⟩
  have rotE : ∀ e k, eig k mi = e → x.1 = k → ¬ k = 0 → ¬ k = 1 → ¬ k = 3 → ¬ k = 8 → cq g (2 ^ W) (rotm (fun i => nI i &&& nI (2 ^ (x.2.1 + sh) ||| (x.2.2.2.1 * 2 ^ sh)) = nI (2 ^ (x.2.1 + sh) ||| (x.2.2.2.1 * 2 ^ sh))) (t8n e) xs (2 ^ W)) = cq g (2 ^ W) (gx x.1 (x.2.1 + sh) (x.2.2.1 + sh) (x.2.2.2.1 * 2 ^ sh) mi (2 ^ W) xs) := by
    intro e k he hk k0 k1 k3 k8
    refine cq_e fun j hj => ?_
    unfold gx
    rw [hk, if_neg k0, if_neg k1, if_neg k3, if_neg k8, he]
    exact rot_cg e1 hj
  refine ⟨rfl, rfl, rfl, fun X hX => am_run hX 100 _ _ _ _ ?_⟩
  conv => whnf
  refine am_c1 (ct_wireOf (d := d + 2)) ?_
  rw [bk_wi oW ow]
  conv => whnf
  rw [nI_add, sh2 _ (by omega)]
  refine am_c1 (ct_controlsOf (d := d + 2)) ?_
  rw [bk_cc oW ow]
  conv => whnf
  rw [nI_shl (by omega) (by omega)]
  refine am_c1 (ct_kind (d := d + 2)) ?_
  rw [bk_k oW ow]
  rcases (by omega : x.1 = 0 ∨ x.1 = 1 ∨ x.1 = 8 ∨ x.1 = 2 ∨ x.1 = 4 ∨ x.1 = 5 ∨ x.1 = 6 ∨ x.1 = 7) with hk | hk | hk | hk | hk | hk | hk | hk
  · rw [hk]
    conv => whnf
    refine ⟨fun _ => ?_, fun c => absurd rfl c⟩
    conv => whnf
    rw [nI_or]
    refine am_c0 (ct_exch107 (d := d + 1) hN hs hx0) ?_
    conv => whnf
    refine ⟨trivial, rfl, congrArg (mm_l M 107) (cq_e fun j hj => ?_)⟩
    rw [exm_pm]
    exact pm_cg e0 hj (xq_lt hj htl)
  · rw [hk]
    conv => whnf
    refine ⟨fun c => absurd c (by decide), fun _ => ?_⟩
    conv => whnf
    refine ⟨fun _ => ?_, fun c => absurd rfl c⟩
    conv => whnf
    rw [nI_or]
    refine am_c0 (ct_exch107 (d := d + 1) hN hs hx0) ?_
    cases mi with
    | false =>
      conv => whnf
      refine ⟨fun _ => ?_, fun c => absurd rfl c⟩
      conv => whnf
      rw [nI_or]
      refine am_c0 (ct_rot107 (d := d + 1) (e := 6) hN hs (by decide)) ?_
      conv => whnf
      refine ⟨fun _ => ?_, fun c => absurd rfl c⟩
      conv => whnf
      rw [nI_or]
      refine am_c0 (ct_rot107 (d := d + 1) (e := 2) hN hs (by decide)) ?_
      conv => whnf
      refine ⟨trivial, rfl, congrArg (mm_l M 107) (cq_e fun j hj => ?_)⟩
      exact gy_e ht hct e0 e1 hj
    | true =>
      conv => whnf
      refine ⟨fun c => absurd c (by decide), fun _ => ?_⟩
      conv => whnf
      rw [nI_or]
      refine am_c0 (ct_rot107 (d := d + 1) (e := 2) hN hs (by decide)) ?_
      conv => whnf
      refine ⟨fun c => absurd c (by decide), fun _ => ?_⟩
      conv => whnf
      rw [nI_or]
      refine am_c0 (ct_rot107 (d := d + 1) (e := 6) hN hs (by decide)) ?_
      conv => whnf
      refine ⟨trivial, rfl, congrArg (mm_l M 107) (cq_e fun j hj => ?_)⟩
      exact gy_e ht hct e0 e1 hj
  · obtain ⟨hs8, hne, hcs⟩ := h8s hk
    have hsl : 2 ^ (x.2.2.1 + sh) < 2 ^ W := Nat.pow_lt_pow_right (by decide) hs8
    have ew := iSw hW8 ht hs8 hne hc hct hcs
    have hxl := Nat.xor_lt_two_pow htl hsl
    have hxw : ∀ i, i < 2 ^ W → nI i &&& nI (2 ^ (x.2.1 + sh) ||| 2 ^ (x.2.2.1 + sh) ||| (x.2.2.2.1 * 2 ^ sh)) = nI (2 ^ (x.2.1 + sh) ||| (x.2.2.2.1 * 2 ^ sh)) → i ^^^ (2 ^ (x.2.1 + sh) ^^^ 2 ^ (x.2.2.1 + sh)) < 2 ^ W ∧ ¬ nI (i ^^^ (2 ^ (x.2.1 + sh) ^^^ 2 ^ (x.2.2.1 + sh))) &&& nI (2 ^ (x.2.1 + sh) ||| 2 ^ (x.2.2.1 + sh) ||| (x.2.2.2.1 * 2 ^ sh)) = nI (2 ^ (x.2.1 + sh) ||| (x.2.2.2.1 * 2 ^ sh)) := fun i hi q => by
      have hi2 := xq_lt hi hxl
      exact ⟨hi2, fun q2 => gw_n hne ((ew i hi).mp q) ((ew _ hi2).mp q2)⟩
    rw [hk]
    conv => whnf
    refine ⟨fun c => absurd c (by decide), fun _ => ?_⟩
    conv => whnf
    refine ⟨fun c => absurd c (by decide), fun _ => ?_⟩
    conv => whnf
    refine ⟨fun c => absurd c (by decide), fun _ => ?_⟩
    conv => whnf
    refine ⟨fun c => absurd c (by decide), fun _ => ?_⟩
    conv => whnf
    refine ⟨fun c => absurd c (by decide), fun _ => ?_⟩
    conv => whnf
    refine ⟨fun c => absurd c (by decide), fun _ => ?_⟩
    conv => whnf
    refine ⟨fun c => absurd c (by decide), fun _ => ?_⟩
    conv => whnf
    refine ⟨fun c => absurd c (by decide), fun _ => ?_⟩
    conv => whnf
    refine ⟨fun _ => ?_, fun c => absurd rfl c⟩
    conv => whnf
    refine am_c1 (ct_secondOf (d := d + 2)) ?_
    rw [bk_s oW ow]
    conv => whnf
    rw [nI_add, sh2 _ (by omega), nI_or, nI_or, nI_or, show nI (2 ^ (x.2.1 + sh) ||| 2 ^ (x.2.2.1 + sh)) = nI (2 ^ (x.2.1 + sh) ^^^ 2 ^ (x.2.2.1 + sh)) from by rw [p_or hne]]
    refine am_c0 (ct_exch107 (d := d + 1) hN hs hxw) ?_
    conv => whnf
    refine ⟨trivial, rfl, congrArg (mm_l M 107) (cq_e fun j hj => ?_)⟩
    rw [exm_pm]
    exact pm_cg ew hj (xq_lt hj hxl)
  · rw [hk]
    conv => whnf
    refine ⟨fun c => absurd c (by decide), fun _ => ?_⟩
    conv => whnf
    refine ⟨fun c => absurd c (by decide), fun _ => ?_⟩
    conv => whnf
    refine ⟨fun _ => ?_, fun c => absurd rfl c⟩
    conv => whnf
    refine ⟨fun c => absurd c (by decide), fun _ => ?_⟩
    conv => whnf
    refine ⟨vp_in_nI (by decide) (by decide), ?_⟩
    conv => whnf
    rw [show (fun j => xp_a1.getD j 0) (nI 2).toNatClampNeg = nI 4 from by decide]
    rw [nI_or]
    cases mi with
    | false =>
      refine ⟨fun _ => ?_, fun c => absurd rfl c⟩
      conv => whnf
      refine am_c0 (ct_rot107 (d := d + 1) (e := 4) hN hs (by decide)) ?_
      rw [rotE 4 2 rfl hk (by decide) (by decide) (by decide) (by decide)]
      conv => whnf
      exact ⟨trivial, rfl, by rw [hk]⟩
    | true =>
      refine ⟨fun c => absurd c (by decide), fun _ => ?_⟩
      conv => whnf
      rw [show (8 - nI 4) &&& 7 = nI 4 from by decide]
      refine am_c0 (ct_rot107 (d := d + 1) (e := 4) hN hs (by decide)) ?_
      rw [rotE 4 2 rfl hk (by decide) (by decide) (by decide) (by decide)]
      conv => whnf
      exact ⟨trivial, rfl, by rw [hk]⟩
  · rw [hk]
    conv => whnf
    refine ⟨fun c => absurd c (by decide), fun _ => ?_⟩
    conv => whnf
    refine ⟨fun c => absurd c (by decide), fun _ => ?_⟩
    conv => whnf
    refine ⟨fun c => absurd c (by decide), fun _ => ?_⟩
    conv => whnf
    refine ⟨fun c => absurd c (by decide), fun _ => ?_⟩
    conv => whnf
    refine ⟨fun _ => ?_, fun c => absurd rfl c⟩
    conv => whnf
    refine ⟨fun c => absurd c (by decide), fun _ => ?_⟩
    conv => whnf
    refine ⟨vp_in_nI (by decide) (by decide), ?_⟩
    conv => whnf
    rw [show (fun j => xp_a1.getD j 0) (nI 4).toNatClampNeg = nI 2 from by decide]
    rw [nI_or]
    cases mi with
    | false =>
      refine ⟨fun _ => ?_, fun c => absurd rfl c⟩
      conv => whnf
      refine am_c0 (ct_rot107 (d := d + 1) (e := 2) hN hs (by decide)) ?_
      rw [rotE 2 4 rfl hk (by decide) (by decide) (by decide) (by decide)]
      conv => whnf
      exact ⟨trivial, rfl, by rw [hk]⟩
    | true =>
      refine ⟨fun c => absurd c (by decide), fun _ => ?_⟩
      conv => whnf
      rw [show (8 - nI 2) &&& 7 = nI 6 from by decide]
      refine am_c0 (ct_rot107 (d := d + 1) (e := 6) hN hs (by decide)) ?_
      rw [rotE 6 4 rfl hk (by decide) (by decide) (by decide) (by decide)]
      conv => whnf
      exact ⟨trivial, rfl, by rw [hk]⟩
  · rw [hk]
    conv => whnf
    refine ⟨fun c => absurd c (by decide), fun _ => ?_⟩
    conv => whnf
    refine ⟨fun c => absurd c (by decide), fun _ => ?_⟩
    conv => whnf
    refine ⟨fun c => absurd c (by decide), fun _ => ?_⟩
    conv => whnf
    refine ⟨fun c => absurd c (by decide), fun _ => ?_⟩
    conv => whnf
    refine ⟨fun c => absurd c (by decide), fun _ => ?_⟩
    conv => whnf
    refine ⟨fun _ => ?_, fun c => absurd rfl c⟩
    conv => whnf
    refine ⟨fun c => absurd c (by decide), fun _ => ?_⟩
    conv => whnf
    refine ⟨vp_in_nI (by decide) (by decide), ?_⟩
    conv => whnf
    rw [show (fun j => xp_a1.getD j 0) (nI 5).toNatClampNeg = nI 1 from by decide]
    rw [nI_or]
    cases mi with
    | false =>
      refine ⟨fun _ => ?_, fun c => absurd rfl c⟩
      conv => whnf
      refine am_c0 (ct_rot107 (d := d + 1) (e := 1) hN hs (by decide)) ?_
      rw [rotE 1 5 rfl hk (by decide) (by decide) (by decide) (by decide)]
      conv => whnf
      exact ⟨trivial, rfl, by rw [hk]⟩
    | true =>
      refine ⟨fun c => absurd c (by decide), fun _ => ?_⟩
      conv => whnf
      rw [show (8 - nI 1) &&& 7 = nI 7 from by decide]
      refine am_c0 (ct_rot107 (d := d + 1) (e := 7) hN hs (by decide)) ?_
      rw [rotE 7 5 rfl hk (by decide) (by decide) (by decide) (by decide)]
      conv => whnf
      exact ⟨trivial, rfl, by rw [hk]⟩
  · rw [hk]
    conv => whnf
    refine ⟨fun c => absurd c (by decide), fun _ => ?_⟩
    conv => whnf
    refine ⟨fun c => absurd c (by decide), fun _ => ?_⟩
    conv => whnf
    refine ⟨fun c => absurd c (by decide), fun _ => ?_⟩
    conv => whnf
    refine ⟨fun c => absurd c (by decide), fun _ => ?_⟩
    conv => whnf
    refine ⟨fun c => absurd c (by decide), fun _ => ?_⟩
    conv => whnf
    refine ⟨fun c => absurd c (by decide), fun _ => ?_⟩
    conv => whnf
    refine ⟨fun _ => ?_, fun c => absurd rfl c⟩
    conv => whnf
    refine ⟨fun c => absurd c (by decide), fun _ => ?_⟩
    conv => whnf
    refine ⟨vp_in_nI (by decide) (by decide), ?_⟩
    conv => whnf
    rw [show (fun j => xp_a1.getD j 0) (nI 6).toNatClampNeg = nI 6 from by decide]
    rw [nI_or]
    cases mi with
    | false =>
      refine ⟨fun _ => ?_, fun c => absurd rfl c⟩
      conv => whnf
      refine am_c0 (ct_rot107 (d := d + 1) (e := 6) hN hs (by decide)) ?_
      rw [rotE 6 6 rfl hk (by decide) (by decide) (by decide) (by decide)]
      conv => whnf
      exact ⟨trivial, rfl, by rw [hk]⟩
    | true =>
      refine ⟨fun c => absurd c (by decide), fun _ => ?_⟩
      conv => whnf
      rw [show (8 - nI 6) &&& 7 = nI 2 from by decide]
      refine am_c0 (ct_rot107 (d := d + 1) (e := 2) hN hs (by decide)) ?_
      rw [rotE 2 6 rfl hk (by decide) (by decide) (by decide) (by decide)]
      conv => whnf
      exact ⟨trivial, rfl, by rw [hk]⟩
  · rw [hk]
    conv => whnf
    refine ⟨fun c => absurd c (by decide), fun _ => ?_⟩
    conv => whnf
    refine ⟨fun c => absurd c (by decide), fun _ => ?_⟩
    conv => whnf
    refine ⟨fun c => absurd c (by decide), fun _ => ?_⟩
    conv => whnf
    refine ⟨fun c => absurd c (by decide), fun _ => ?_⟩
    conv => whnf
    refine ⟨fun c => absurd c (by decide), fun _ => ?_⟩
    conv => whnf
    refine ⟨fun c => absurd c (by decide), fun _ => ?_⟩
    conv => whnf
    refine ⟨fun c => absurd c (by decide), fun _ => ?_⟩
    conv => whnf
    refine ⟨fun _ => ?_, fun c => absurd rfl c⟩
    conv => whnf
    refine ⟨fun c => absurd c (by decide), fun _ => ?_⟩
    conv => whnf
    refine ⟨vp_in_nI (by decide) (by decide), ?_⟩
    conv => whnf
    rw [show (fun j => xp_a1.getD j 0) (nI 7).toNatClampNeg = nI 7 from by decide]
    rw [nI_or]
    cases mi with
    | false =>
      refine ⟨fun _ => ?_, fun c => absurd rfl c⟩
      conv => whnf
      refine am_c0 (ct_rot107 (d := d + 1) (e := 7) hN hs (by decide)) ?_
      rw [rotE 7 7 rfl hk (by decide) (by decide) (by decide) (by decide)]
      conv => whnf
      exact ⟨trivial, rfl, by rw [hk]⟩
    | true =>
      refine ⟨fun c => absurd c (by decide), fun _ => ?_⟩
      conv => whnf
      rw [show (8 - nI 7) &&& 7 = nI 1 from by decide]
      refine am_c0 (ct_rot107 (d := d + 1) (e := 1) hN hs (by decide)) ?_
      rw [rotE 1 7 rfl hk (by decide) (by decide) (by decide) (by decide)]
      conv => whnf
      exact ⟨trivial, rfl, by rw [hk]⟩
end APP
