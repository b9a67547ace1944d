/-! THE REFERENCE'S apply -/
/-- where an OP of the reference stands, of so many WIRES -/
def rop (M : mm_M) (a k t s c W : Nat) : Prop := a < 6300 ∧ W ≤ 8 ∧ M.1 108 71 = nI W ∧ M.1 112 a = nI k ∧ M.1 113 a = nI t ∧ M.1 114 a = nI s ∧ M.1 115 a = nI c ∧ s < 8
section RPL
variable {d : Nat} {M : mm_M} {g : Nat → Int64}
set_option maxRecDepth 100000 in
theorem rp_l {P : am_Q} {X : am_X} {a k t s c W : Nat} {Y : Nat → Nat → R4 × Nat} (hX : am_K (d + 4) false nm_X12_apply P X) (ho : rop M a k t s c W) (hB : ∀ i, i < 2 ^ W → ∀ q o f l6, (∀ q' o' f' l6', X 301 [some (aR 108), some (aI (nI a)), some (aI (nI c)), some (aI (nI (2 ^ t))), some (aI (nI (2 ^ s))), some (aI (nI i)), l6'] [] (v4 M q' o' f' (c5 g (2 ^ W) (Y (i + 1))))) → X 45 [some (aR 108), some (aI (nI a)), some (aI (nI c)), some (aI (nI (2 ^ t))), some (aI (nI (2 ^ s))), some (aI (nI i)), l6] [] (v4 M q o f (c5 g (2 ^ W) (Y i)))) (hP : ∀ q o f, P (.inl none) (v4 M q o f (c5 g (2 ^ W) (Y (2 ^ W))))) : ∀ (m i : Nat), i + m = 2 ^ W → ∀ q o f l6, X 34 [some (aR 108), some (aI (nI a)), some (aI (nI c)), some (aI (nI (2 ^ t))), some (aI (nI (2 ^ s))), some (aI (nI i)), l6] [] (v4 M q o f (c5 g (2 ^ W) (Y i))) := by
  obtain ⟨ha, w8, hw, hk, ht, hs, hc, _⟩ := ho
  have h8 := w256 w8
  intro m
  induction m with
  | zero =>
    intro i hi q o f l6
    have hi : i = 2 ^ W := by omega
    subst hi
    refine am_run hX 12 _ _ _ _ ?_
    conv => whnf
    rw [show (v4 M q o f (c5 g (2 ^ W) (Y (2 ^ W)))).1 108 71 = nI W from hw, sh2 W (by omega)]
    refine ⟨fun _ => ?_, fun c => absurd (nI_le (by omega) (by omega)) c⟩
    conv => whnf
    exact ⟨trivial, hP _ _ _⟩
  | succ m ih =>
    intro i hi q o f l6
    refine am_run hX 6 _ _ _ _ ?_
    conv => whnf
    rw [show (v4 M q o f (c5 g (2 ^ W) (Y i))).1 108 71 = nI W from hw, sh2 W (by omega)]
    refine ⟨fun c => absurd c (nI_ge (by omega) (by omega)), fun _ => ?_⟩
    refine hB i (by omega) q o f l6 fun q' o' f' l6' => ?_
    refine am_run hX 2 _ _ _ _ ?_
    conv => whnf
    rw [nI_1]
    exact ih (i + 1) (by omega) _ _ _ _

set_option maxRecDepth 100000 in
theorem rp_h {P : am_Q} {X : am_X} {a k t s c W i : Nat} {N : mm_M} (hX : am_K (d + 4) false nm_X12_apply P X) (w8 : W ≤ 8) (htw : t < W) (hcw : c < 2 ^ W) (hi : i < 2 ^ W) (l6 : Option am_V) (h0 : ¬ i &&& c = c → X 301 [some (aR 108), some (aI (nI a)), some (aI (nI c)), some (aI (nI (2 ^ t))), some (aI (nI (2 ^ s))), some (aI (nI i)), l6] [] N) (h1 : gS0 t c i → X 70 [some (aR 108), some (aI (nI a)), some (aI (nI c)), some (aI (nI (2 ^ t))), some (aI (nI (2 ^ s))), some (aI (nI i)), some (aI 0)] [] N) (h2 : gS1 t c i → X 70 [some (aR 108), some (aI (nI a)), some (aI (nI c)), some (aI (nI (2 ^ t))), some (aI (nI (2 ^ s))), some (aI (nI i)), some (aI 1)] [] N) : X 45 [some (aR 108), some (aI (nI a)), some (aI (nI c)), some (aI (nI (2 ^ t))), some (aI (nI (2 ^ s))), some (aI (nI i)), l6] [] N := by
  have h8 := w256 w8
  have htl : 2 ^ t < 2 ^ W := Nat.pow_lt_pow_right (by decide) htw
  have hlt : i &&& c < 2 ^ W := Nat.and_lt_two_pow _ hcw
  have hlt2 : i &&& 2 ^ t < 2 ^ W := Nat.and_lt_two_pow _ htl
  refine am_run hX 5 _ _ _ _ ?_
  conv => whnf
  rw [nI_and, nI_eq (by omega) (by omega)]
  refine ⟨fun hA => ?_, fun hA => ?_⟩
  · refine am_run hX 4 _ _ _ _ ?_
    conv => whnf
    rw [nI_and, show (0 : Int32) = nI 0 from rfl, nI_eq (by omega) (by omega), an_0]
    refine ⟨fun hb => ?_, fun hb => ?_⟩
    · refine am_run hX 2 _ _ _ _ ?_
      conv => whnf
      exact h1 ⟨hA, hb⟩
    · have hb : i.testBit t = true := by
        cases q : i.testBit t with
        | true => rfl
        | false => exact absurd q hb
      refine am_run hX 3 _ _ _ _ ?_
      conv => whnf
      exact h2 ⟨hA, hb⟩
  · refine am_run hX 1 _ _ _ _ ?_
    conv => whnf
    exact h0 hA
set_option maxRecDepth 100000 in
theorem rp_0 {P : am_Q} {X : am_X} {a t s c W : Nat} {ys : Nat → R4 × Nat} (hX : am_K (d + 4) false nm_X12_apply P X) (ho : rop M a 0 t s c W) (hap : apo 0 t s c W) (hP : ∀ q o f, P (.inl none) (v4 M q o f (c5 g (2 ^ W) (pm (gS0 t c) (2 ^ t) (fun _ b => b) (fun a _ => a) ys (2 ^ W))))) : ∀ (m i : Nat), i + m = 2 ^ W → ∀ q o f l6, X 34 [some (aR 108), some (aI (nI a)), some (aI (nI c)), some (aI (nI (2 ^ t))), some (aI (nI (2 ^ s))), some (aI (nI i)), l6] [] (v4 M q o f (c5 g (2 ^ W) (pm (gS0 t c) (2 ^ t) (fun _ b => b) (fun a _ => a) ys i))) := by
  have ho' := ho
  obtain ⟨ha, w8, hw, hk, ht, hs, hc, hs8⟩ := ho
  obtain ⟨htw, hcw, hct, h8s⟩ := hap
  have h8 := w256 w8
  have htl : 2 ^ t < 2 ^ W := Nat.pow_lt_pow_right (by decide) htw
  refine rp_l (k := 0) hX ho' (fun i hi q o f l6 hK => ?_) hP
  refine rp_h (k := 0) (s := s) hX w8 htw hcw hi l6 (fun hA => ?_) (fun hS => ?_) (fun hS => ?_)
  · rw [pm_n (fun q => hA q.1)]
    exact hK _ _ _ _
  · have hj := xq_lt hi htl
    have hnS := g0_n hct hS
    refine am_run hX 5 _ _ _ _ ?_
    conv => whnf
    refine ⟨vp_in_nI (by show _ < 6300; omega) (by decide), ?_⟩
    conv => whnf
    rw [nI_clamp (n := a) (by omega), show (v4 M q o f (c5 g (2 ^ W) (pm (gS0 t c) (2 ^ t) (fun _ b => b) (fun a _ => a) ys i))).1 112 a = nI 0 from hk]
    refine ⟨fun _ => ?_, fun c => absurd rfl c⟩
    refine am_run hX 2 _ _ _ _ ?_
    conv => whnf
    refine ⟨fun c => absurd rfl c, fun _ => ?_⟩
    refine am_run hX 7 _ _ _ _ ?_
    conv => whnf
    rw [nI_or, or_x hS.2]
    refine am_c0 (ct_exc5 (d := d + 3) h8 hi hj (fun e => hnS (by rw [← e]; exact hS))) ?_
    rw [pm_at hnS, pm_at2 hnS, pm_s hS hnS]
    conv => whnf
    exact hK _ _ _ _
  · refine am_run hX 5 _ _ _ _ ?_
    conv => whnf
    refine ⟨vp_in_nI (by show _ < 6300; omega) (by decide), ?_⟩
    conv => whnf
    rw [nI_clamp (n := a) (by omega), show (v4 M q o f (c5 g (2 ^ W) (pm (gS0 t c) (2 ^ t) (fun _ b => b) (fun a _ => a) ys i))).1 112 a = nI 0 from hk]
    refine ⟨fun _ => ?_, fun c => absurd rfl c⟩
    refine am_run hX 2 _ _ _ _ ?_
    conv => whnf
    refine ⟨fun _ => ?_, fun c => absurd (by decide) c⟩
    rw [pm_n (fun q => by have := q.2; rw [hS.2] at this; exact absurd this (by decide))]
    exact hK _ _ _ _
set_option maxRecDepth 100000 in
theorem rp_1 {P : am_Q} {X : am_X} {a t s c W : Nat} {ys : Nat → R4 × Nat} (hX : am_K (d + 4) false nm_X12_apply P X) (ho : rop M a 1 t s c W) (hap : apo 1 t s c W) (hP : ∀ q o f, P (.inl none) (v4 M q o f (c5 g (2 ^ W) (pm (gS0 t c) (2 ^ t) (fun _ b => (t8n 6 b.1, b.2)) (fun a _ => (t8n 2 a.1, a.2)) ys (2 ^ W))))) : ∀ (m i : Nat), i + m = 2 ^ W → ∀ q o f l6, X 34 [some (aR 108), some (aI (nI a)), some (aI (nI c)), some (aI (nI (2 ^ t))), some (aI (nI (2 ^ s))), some (aI (nI i)), l6] [] (v4 M q o f (c5 g (2 ^ W) (pm (gS0 t c) (2 ^ t) (fun _ b => (t8n 6 b.1, b.2)) (fun a _ => (t8n 2 a.1, a.2)) ys i))) := by
  have ho' := ho
  obtain ⟨ha, w8, hw, hk, ht, hs, hc, hs8⟩ := ho
  obtain ⟨htw, hcw, hct, h8s⟩ := hap
  have h8 := w256 w8
  have htl : 2 ^ t < 2 ^ W := Nat.pow_lt_pow_right (by decide) htw
  refine rp_l (k := 1) hX ho' (fun i hi q o f l6 hK => ?_) hP
  refine rp_h (k := 1) (s := s) hX w8 htw hcw hi l6 (fun hA => ?_) (fun hS => ?_) (fun hS => ?_)
  · rw [pm_n (fun q => hA q.1)]
    exact hK _ _ _ _
  · have hj := xq_lt hi htl
    have hnS := g0_n hct hS
    have hne : i ≠ i ^^^ 2 ^ t := fun e => hnS (by rw [← e]; exact hS)
    refine am_run hX 5 _ _ _ _ ?_
    conv => whnf
    refine ⟨vp_in_nI (by show _ < 6300; omega) (by decide), ?_⟩
    conv => whnf
    rw [nI_clamp (n := a) (by omega), show (v4 M q o f (c5 g (2 ^ W) (pm (gS0 t c) (2 ^ t) (fun _ b => (t8n 6 b.1, b.2)) (fun a _ => (t8n 2 a.1, a.2)) ys i))).1 112 a = nI 1 from hk]
    refine ⟨fun c => absurd c (by decide), fun _ => ?_⟩
    conv => whnf
    refine ⟨fun _ => ?_, fun c => absurd rfl c⟩
    refine am_run hX 2 _ _ _ _ ?_
    conv => whnf
    refine ⟨fun c => absurd rfl c, fun _ => ?_⟩
    refine am_run hX 17 _ _ _ _ ?_
    conv => whnf
    rw [nI_or, or_x hS.2]
    refine am_c0 (ct_exc5 (d := d + 3) h8 hi hj hne) ?_
    rw [pm_at hnS, pm_at2 hnS]
    conv => whnf
    refine am_c0 (ct_turnAt (d := d + 2) (e := 6) h8 hi (by decide)) ?_
    conv => whnf
    rw [nI_or, or_x hS.2]
    refine am_c0 (ct_turnAt (d := d + 2) (e := 2) h8 hj (by decide)) ?_
    rw [sta_ne _ _ hne.symm, sta_at, sta_ne _ _ hne, sta_at, sta_4 _ hne]
    rw [show sta (sta (pm (gS0 t c) (2 ^ t) (fun _ b => (t8n 6 b.1, b.2)) (fun a _ => (t8n 2 a.1, a.2)) ys i) i (t8n 6 (ys (i ^^^ 2 ^ t)).1, (ys (i ^^^ 2 ^ t)).2)) (i ^^^ 2 ^ t) (t8n 2 (ys i).1, (ys i).2) = (pm (gS0 t c) (2 ^ t) (fun _ b => (t8n 6 b.1, b.2)) (fun a _ => (t8n 2 a.1, a.2)) ys (i + 1)) from pm_s (f := fun _ b => (t8n 6 b.1, b.2)) (h := fun a _ => (t8n 2 a.1, a.2)) hS hnS]
    conv => whnf
    exact hK _ _ _ _
  · refine am_run hX 5 _ _ _ _ ?_
    conv => whnf
    refine ⟨vp_in_nI (by show _ < 6300; omega) (by decide), ?_⟩
    conv => whnf
    rw [nI_clamp (n := a) (by omega), show (v4 M q o f (c5 g (2 ^ W) (pm (gS0 t c) (2 ^ t) (fun _ b => (t8n 6 b.1, b.2)) (fun a _ => (t8n 2 a.1, a.2)) ys i))).1 112 a = nI 1 from hk]
    refine ⟨fun c => absurd c (by decide), fun _ => ?_⟩
    conv => whnf
    refine ⟨fun _ => ?_, fun c => absurd rfl c⟩
    refine am_run hX 2 _ _ _ _ ?_
    conv => whnf
    refine ⟨fun _ => ?_, fun c => absurd (by decide) c⟩
    rw [pm_n (fun q => by have := q.2; rw [hS.2] at this; exact absurd this (by decide))]
    exact hK _ _ _ _
theorem sw_x {i t s : Nat} (hn : t ≠ s) (h1 : i.testBit t = true) (h2 : i.testBit s = false) : (i ^^^ (i &&& 2 ^ t)) ||| 2 ^ s = i ^^^ (2 ^ t ^^^ 2 ^ s) := by
  rw [an_1 h1, or_x (by rw [xo_s hn]; exact h2), Nat.xor_assoc]
set_option maxRecDepth 100000 in
theorem rp_8 {P : am_Q} {X : am_X} {a t s c W : Nat} {ys : Nat → R4 × Nat} (hX : am_K (d + 4) false nm_X12_apply P X) (ho : rop M a 8 t s c W) (hap : apo 8 t s c W) (hP : ∀ q o f, P (.inl none) (v4 M q o f (c5 g (2 ^ W) (pm (gSw t s c) (2 ^ t ^^^ 2 ^ s) (fun _ b => b) (fun a _ => a) ys (2 ^ W))))) : ∀ (m i : Nat), i + m = 2 ^ W → ∀ q o f l6, X 34 [some (aR 108), some (aI (nI a)), some (aI (nI c)), some (aI (nI (2 ^ t))), some (aI (nI (2 ^ s))), some (aI (nI i)), l6] [] (v4 M q o f (c5 g (2 ^ W) (pm (gSw t s c) (2 ^ t ^^^ 2 ^ s) (fun _ b => b) (fun a _ => a) ys i))) := by
  have ho' := ho
  obtain ⟨ha, w8, hw, hk, ht, hs, hc, hs8⟩ := ho
  obtain ⟨htw, hcw, hct, h8s⟩ := hap
  have h8 := w256 w8
  have htl : 2 ^ t < 2 ^ W := Nat.pow_lt_pow_right (by decide) htw
  refine rp_l (k := 8) hX ho' (fun i hi q o f l6 hK => ?_) hP
  obtain ⟨hsw, hne, hcs⟩ := h8s rfl
  have hsl : 2 ^ s < 2 ^ W := Nat.pow_lt_pow_right (by decide) hsw
  have hxl := Nat.xor_lt_two_pow htl hsl
  refine rp_h (k := 8) (s := s) hX w8 htw hcw hi l6 (fun hA => ?_) (fun hS => ?_) (fun hS => ?_)
  · rw [pm_n (fun q => hA q.1)]
    exact hK _ _ _ _
  · refine am_run hX 5 _ _ _ _ ?_
    conv => whnf
    refine ⟨vp_in_nI (by show _ < 6300; omega) (by decide), ?_⟩
    conv => whnf
    rw [nI_clamp (n := a) (by omega), show (v4 M q o f (c5 g (2 ^ W) (pm (gSw t s c) (2 ^ t ^^^ 2 ^ s) (fun _ b => b) (fun a _ => a) ys i))).1 112 a = nI 8 from hk]
    refine ⟨fun c => absurd c (by decide), fun _ => ?_⟩
    conv => whnf
    refine ⟨fun c => absurd c (by decide), fun _ => ?_⟩
    conv => whnf
    refine ⟨fun c => absurd c (by decide), fun _ => ?_⟩
    conv => whnf
    refine ⟨fun c => absurd c (by decide), fun _ => ?_⟩
    conv => whnf
    refine ⟨fun c => absurd c (by decide), fun _ => ?_⟩
    conv => whnf
    refine ⟨fun c => absurd c (by decide), fun _ => ?_⟩
    conv => whnf
    refine ⟨fun c => absurd c (by decide), fun _ => ?_⟩
    conv => whnf
    refine ⟨fun c => absurd c (by decide), fun _ => ?_⟩
    conv => whnf
    refine ⟨fun _ => ?_, fun c => absurd rfl c⟩
    refine am_run hX 2 _ _ _ _ ?_
    conv => whnf
    refine ⟨fun _ => ?_, fun c => absurd rfl c⟩
    rw [pm_n (fun q => by have := q.2.1; rw [hS.2] at this; exact absurd this (by decide))]
    exact hK _ _ _ _
  · refine am_run hX 5 _ _ _ _ ?_
    conv => whnf
    refine ⟨vp_in_nI (by show _ < 6300; omega) (by decide), ?_⟩
    conv => whnf
    rw [nI_clamp (n := a) (by omega), show (v4 M q o f (c5 g (2 ^ W) (pm (gSw t s c) (2 ^ t ^^^ 2 ^ s) (fun _ b => b) (fun a _ => a) ys i))).1 112 a = nI 8 from hk]
    refine ⟨fun c => absurd c (by decide), fun _ => ?_⟩
    conv => whnf
    refine ⟨fun c => absurd c (by decide), fun _ => ?_⟩
    conv => whnf
    refine ⟨fun c => absurd c (by decide), fun _ => ?_⟩
    conv => whnf
    refine ⟨fun c => absurd c (by decide), fun _ => ?_⟩
    conv => whnf
    refine ⟨fun c => absurd c (by decide), fun _ => ?_⟩
    conv => whnf
    refine ⟨fun c => absurd c (by decide), fun _ => ?_⟩
    conv => whnf
    refine ⟨fun c => absurd c (by decide), fun _ => ?_⟩
    conv => whnf
    refine ⟨fun c => absurd c (by decide), fun _ => ?_⟩
    conv => whnf
    refine ⟨fun _ => ?_, fun c => absurd rfl c⟩
    refine am_run hX 2 _ _ _ _ ?_
    conv => whnf
    refine ⟨fun c => absurd c (by decide), fun _ => ?_⟩
    have hlt2 : i &&& 2 ^ s < 2 ^ W := Nat.and_lt_two_pow _ hsl
    refine am_run hX 4 _ _ _ _ ?_
    conv => whnf
    rw [nI_and, show (0 : Int32) = nI 0 from rfl, nI_eq (by omega) (by omega), an_0]
    refine ⟨fun hb => ?_, fun hb => ?_⟩
    · rw [pm_n (fun q => hb q.2.2)]
      exact hK _ _ _ _
    · have hb : i.testBit s = false := Decidable.byContradiction hb
      have hSw : gSw t s c i := ⟨hS.1, hS.2, hb⟩
      have hnS := gw_n hne hSw
      have hj := xq_lt hi hxl
      refine am_run hX 11 _ _ _ _ ?_
      conv => whnf
      rw [nI_andn, nI_or, sw_x hne hS.2 hb]
      refine am_c0 (ct_exc5 (d := d + 3) h8 hi hj (fun e => hnS (by rw [← e]; exact hSw))) ?_
      rw [pm_at hnS, pm_at2 hnS, pm_s hSw hnS]
      conv => whnf
      exact hK _ _ _ _
set_option maxRecDepth 100000 in
theorem rp_3 {P : am_Q} {X : am_X} {a t s c W k : Nat} {xs : Nat → R4} (hX : am_K (d + 4) false nm_X12_apply P X) (ho : rop M a 3 t s c W) (hap : apo 3 t s c W) (hk6 : k ≤ 1000000) (hb : ∀ i, i < 2 ^ W → gS0 t c i → bd (ra (xs i) (xs (i ^^^ 2 ^ t))) ∧ bd (ra (xs i) (ng (xs (i ^^^ 2 ^ t))))) (hP : ∀ q o f, P (.inl none) (v4 M q o f (c5 g (2 ^ W) (fun j => (pm (gS0 t c) (2 ^ t) (fun a b => (red (k + 1) (ra a.2 b.2), a.2)) (fun a b => (red (k + 1) (ra a.2 (ng b.2)), a.2)) (fun j => (red k (xs j), xs j)) (2 ^ W) j).1)))) : ∀ (m i : Nat), i + m = 2 ^ W → ∀ q o f l6, X 34 [some (aR 108), some (aI (nI a)), some (aI (nI c)), some (aI (nI (2 ^ t))), some (aI (nI (2 ^ s))), some (aI (nI i)), l6] [] (v4 M q o f (c5 g (2 ^ W) (fun j => (pm (gS0 t c) (2 ^ t) (fun a b => (red (k + 1) (ra a.2 b.2), a.2)) (fun a b => (red (k + 1) (ra a.2 (ng b.2)), a.2)) (fun j => (red k (xs j), xs j)) i j).1))) := by
  have ho' := ho
  obtain ⟨ha, w8, hw, hk, ht, hs, hc, hs8⟩ := ho
  obtain ⟨htw, hcw, hct, h8s⟩ := hap
  have h8 := w256 w8
  have htl : 2 ^ t < 2 ^ W := Nat.pow_lt_pow_right (by decide) htw
  refine rp_l (k := 3) (Y := fun m => (fun j => (pm (gS0 t c) (2 ^ t) (fun a b => (red (k + 1) (ra a.2 b.2), a.2)) (fun a b => (red (k + 1) (ra a.2 (ng b.2)), a.2)) (fun j => (red k (xs j), xs j)) m j).1)) hX ho' (fun i hi q o f l6 hK => ?_) hP
  refine rp_h (k := 3) (s := s) hX w8 htw hcw hi l6 (fun hA => ?_) (fun hS => ?_) (fun hS => ?_)
  · try dsimp only at hK ⊢
    rw [pm_n (fun q => hA q.1)]
    exact hK _ _ _ _
  · have hj := xq_lt hi htl
    have hnS := g0_n hct hS
    try dsimp only at hK ⊢
    refine am_run hX 5 _ _ _ _ ?_
    conv => whnf
    refine ⟨vp_in_nI (by show _ < 6300; omega) (by decide), ?_⟩
    conv => whnf
    rw [nI_clamp (n := a) (by omega), show (v4 M q o f (c5 g (2 ^ W) (fun j => (pm (gS0 t c) (2 ^ t) (fun a b => (red (k + 1) (ra a.2 b.2), a.2)) (fun a b => (red (k + 1) (ra a.2 (ng b.2)), a.2)) (fun j => (red k (xs j), xs j)) i j).1))).1 112 a = nI 3 from hk]
    refine ⟨fun c => absurd c (by decide), fun _ => ?_⟩
    conv => whnf
    refine ⟨fun c => absurd c (by decide), fun _ => ?_⟩
    conv => whnf
    refine ⟨fun c => absurd c (by decide), fun _ => ?_⟩
    conv => whnf
    refine ⟨fun _ => ?_, fun c => absurd rfl c⟩
    refine am_run hX 2 _ _ _ _ ?_
    conv => whnf
    refine ⟨fun c => absurd rfl c, fun _ => ?_⟩
    refine am_run hX 7 _ _ _ _ ?_
    conv => whnf
    rw [nI_or, or_x hS.2]
    refine am_cq (ct_mixAt (d := d) (A := xs i) (B := xs (i ^^^ 2 ^ t)) h8 hi hj hk6 (by rw [pm_at hnS]) (by rw [pm_at2 hnS]) (hb i hi hS).1 (hb i hi hS).2) ?_
    rintro r M' ⟨rfl, q', o', f', rfl⟩
    refine ⟨none, rfl, ?_⟩
    have key := pm_s (f := (fun a b => (red (k + 1) (ra a.2 b.2), a.2))) (h := (fun a b => (red (k + 1) (ra a.2 (ng b.2)), a.2))) (ys := fun j => (red k (xs j), xs j)) hS hnS
    have key2 := congrArg (fun z => fun j => Prod.fst (z j)) key
    dsimp only at key2
    rw [sta_m Prod.fst, sta_m Prod.fst] at key2
    dsimp only at key2
    rw [key2]
    conv => whnf
    exact hK _ _ _ _
  · try dsimp only at hK ⊢
    refine am_run hX 5 _ _ _ _ ?_
    conv => whnf
    refine ⟨vp_in_nI (by show _ < 6300; omega) (by decide), ?_⟩
    conv => whnf
    rw [nI_clamp (n := a) (by omega), show (v4 M q o f (c5 g (2 ^ W) (fun j => (pm (gS0 t c) (2 ^ t) (fun a b => (red (k + 1) (ra a.2 b.2), a.2)) (fun a b => (red (k + 1) (ra a.2 (ng b.2)), a.2)) (fun j => (red k (xs j), xs j)) i j).1))).1 112 a = nI 3 from hk]
    refine ⟨fun c => absurd c (by decide), fun _ => ?_⟩
    conv => whnf
    refine ⟨fun c => absurd c (by decide), fun _ => ?_⟩
    conv => whnf
    refine ⟨fun c => absurd c (by decide), fun _ => ?_⟩
    conv => whnf
    refine ⟨fun _ => ?_, fun c => absurd rfl c⟩
    refine am_run hX 2 _ _ _ _ ?_
    conv => whnf
    refine ⟨fun _ => ?_, fun c => absurd (by decide) c⟩
    rw [pm_n (fun q => by have := q.2; rw [hS.2] at this; exact absurd this (by decide))]
    exact hK _ _ _ _
set_option maxRecDepth 100000 in
theorem rp_2 {P : am_Q} {X : am_X} {a t s c W : Nat} {ys : Nat → R4 × Nat} (hX : am_K (d + 4) false nm_X12_apply P X) (ho : rop M a 2 t s c W) (hap : apo 2 t s c W) (hP : ∀ q o f, P (.inl none) (v4 M q o f (c5 g (2 ^ W) (rotA (gS1 t c) (fun y : R4 × Nat => (t8n 4 y.1, y.2)) ys  (2 ^ W))))) : ∀ (m i : Nat), i + m = 2 ^ W → ∀ q o f l6, X 34 [some (aR 108), some (aI (nI a)), some (aI (nI c)), some (aI (nI (2 ^ t))), some (aI (nI (2 ^ s))), some (aI (nI i)), l6] [] (v4 M q o f (c5 g (2 ^ W) (rotA (gS1 t c) (fun y : R4 × Nat => (t8n 4 y.1, y.2)) ys i))) := by
  have ho' := ho
  obtain ⟨ha, w8, hw, hk, ht, hs, hc, hs8⟩ := ho
  obtain ⟨htw, hcw, hct, h8s⟩ := hap
  have h8 := w256 w8
  have htl : 2 ^ t < 2 ^ W := Nat.pow_lt_pow_right (by decide) htw
  refine rp_l (k := 2) hX ho' (fun i hi q o f l6 hK => ?_) hP
  refine rp_h (k := 2) (s := s) hX w8 htw hcw hi l6 (fun hA => ?_) (fun hS => ?_) (fun hS => ?_)
  · rw [rotA_n (fun q => hA q.1)]
    exact hK _ _ _ _
  · refine am_run hX 5 _ _ _ _ ?_
    conv => whnf
    refine ⟨vp_in_nI (by show _ < 6300; omega) (by decide), ?_⟩
    conv => whnf
    rw [nI_clamp (n := a) (by omega), show (v4 M q o f (c5 g (2 ^ W) (rotA (gS1 t c) (fun y : R4 × Nat => (t8n 4 y.1, y.2)) ys i))).1 112 a = nI 2 from hk]
    refine ⟨fun c => absurd c (by decide), fun _ => ?_⟩
    conv => whnf
    refine ⟨fun c => absurd c (by decide), fun _ => ?_⟩
    conv => whnf
    refine ⟨fun _ => ?_, fun c => absurd rfl c⟩
    refine am_run hX 2 _ _ _ _ ?_
    conv => whnf
    refine ⟨fun _ => ?_, fun c => absurd rfl c⟩
    rw [rotA_n (fun q => by have := q.2; rw [hS.2] at this; exact absurd this (by decide))]
    exact hK _ _ _ _
  · refine am_run hX 5 _ _ _ _ ?_
    conv => whnf
    refine ⟨vp_in_nI (by show _ < 6300; omega) (by decide), ?_⟩
    conv => whnf
    rw [nI_clamp (n := a) (by omega), show (v4 M q o f (c5 g (2 ^ W) (rotA (gS1 t c) (fun y : R4 × Nat => (t8n 4 y.1, y.2)) ys i))).1 112 a = nI 2 from hk]
    refine ⟨fun c => absurd c (by decide), fun _ => ?_⟩
    conv => whnf
    refine ⟨fun c => absurd c (by decide), fun _ => ?_⟩
    conv => whnf
    refine ⟨fun _ => ?_, fun c => absurd rfl c⟩
    refine am_run hX 2 _ _ _ _ ?_
    conv => whnf
    refine ⟨fun c => absurd c (by decide), fun _ => ?_⟩
    refine am_run hX 11 _ _ _ _ ?_
    conv => whnf
    refine ⟨vp_in_nI (by show _ < 6300; omega) (by decide), ?_⟩
    conv => whnf
    rw [nI_clamp (n := a) (by omega), show (v4 M q o f (c5 g (2 ^ W) (rotA (gS1 t c) (fun y : R4 × Nat => (t8n 4 y.1, y.2)) ys i))).1 112 a = nI 2 from hk]
    refine ⟨fun c => absurd rfl c, fun _ => ?_⟩
    conv => whnf
    refine am_c0 (ct_turnAt (d := d + 2) (e := 4) h8 hi (by decide)) ?_
    rw [rotA_at, rotA_s (F := fun y : R4 × Nat => (t8n 4 y.1, y.2)) hS]
    conv => whnf
    exact hK _ _ _ _
set_option maxRecDepth 100000 in
theorem rp_4 {P : am_Q} {X : am_X} {a t s c W : Nat} {ys : Nat → R4 × Nat} (hX : am_K (d + 4) false nm_X12_apply P X) (ho : rop M a 4 t s c W) (hap : apo 4 t s c W) (hP : ∀ q o f, P (.inl none) (v4 M q o f (c5 g (2 ^ W) (rotA (gS1 t c) (fun y : R4 × Nat => (t8n 2 y.1, y.2)) ys  (2 ^ W))))) : ∀ (m i : Nat), i + m = 2 ^ W → ∀ q o f l6, X 34 [some (aR 108), some (aI (nI a)), some (aI (nI c)), some (aI (nI (2 ^ t))), some (aI (nI (2 ^ s))), some (aI (nI i)), l6] [] (v4 M q o f (c5 g (2 ^ W) (rotA (gS1 t c) (fun y : R4 × Nat => (t8n 2 y.1, y.2)) ys i))) := by
  have ho' := ho
  obtain ⟨ha, w8, hw, hk, ht, hs, hc, hs8⟩ := ho
  obtain ⟨htw, hcw, hct, h8s⟩ := hap
  have h8 := w256 w8
  have htl : 2 ^ t < 2 ^ W := Nat.pow_lt_pow_right (by decide) htw
  refine rp_l (k := 4) hX ho' (fun i hi q o f l6 hK => ?_) hP
  refine rp_h (k := 4) (s := s) hX w8 htw hcw hi l6 (fun hA => ?_) (fun hS => ?_) (fun hS => ?_)
  · rw [rotA_n (fun q => hA q.1)]
    exact hK _ _ _ _
  · refine am_run hX 5 _ _ _ _ ?_
    conv => whnf
    refine ⟨vp_in_nI (by show _ < 6300; omega) (by decide), ?_⟩
    conv => whnf
    rw [nI_clamp (n := a) (by omega), show (v4 M q o f (c5 g (2 ^ W) (rotA (gS1 t c) (fun y : R4 × Nat => (t8n 2 y.1, y.2)) ys i))).1 112 a = nI 4 from hk]
    refine ⟨fun c => absurd c (by decide), fun _ => ?_⟩
    conv => whnf
    refine ⟨fun c => absurd c (by decide), fun _ => ?_⟩
    conv => whnf
    refine ⟨fun c => absurd c (by decide), fun _ => ?_⟩
    conv => whnf
    refine ⟨fun c => absurd c (by decide), fun _ => ?_⟩
    conv => whnf
    refine ⟨fun _ => ?_, fun c => absurd rfl c⟩
    refine am_run hX 2 _ _ _ _ ?_
    conv => whnf
    refine ⟨fun _ => ?_, fun c => absurd rfl c⟩
    rw [rotA_n (fun q => by have := q.2; rw [hS.2] at this; exact absurd this (by decide))]
    exact hK _ _ _ _
  · refine am_run hX 5 _ _ _ _ ?_
    conv => whnf
    refine ⟨vp_in_nI (by show _ < 6300; omega) (by decide), ?_⟩
    conv => whnf
    rw [nI_clamp (n := a) (by omega), show (v4 M q o f (c5 g (2 ^ W) (rotA (gS1 t c) (fun y : R4 × Nat => (t8n 2 y.1, y.2)) ys i))).1 112 a = nI 4 from hk]
    refine ⟨fun c => absurd c (by decide), fun _ => ?_⟩
    conv => whnf
    refine ⟨fun c => absurd c (by decide), fun _ => ?_⟩
    conv => whnf
    refine ⟨fun c => absurd c (by decide), fun _ => ?_⟩
    conv => whnf
    refine ⟨fun c => absurd c (by decide), fun _ => ?_⟩
    conv => whnf
    refine ⟨fun _ => ?_, fun c => absurd rfl c⟩
    refine am_run hX 2 _ _ _ _ ?_
    conv => whnf
    refine ⟨fun c => absurd c (by decide), fun _ => ?_⟩
    refine am_run hX 17 _ _ _ _ ?_
    conv => whnf
    refine ⟨vp_in_nI (by show _ < 6300; omega) (by decide), ?_⟩
    conv => whnf
    rw [nI_clamp (n := a) (by omega), show (v4 M q o f (c5 g (2 ^ W) (rotA (gS1 t c) (fun y : R4 × Nat => (t8n 2 y.1, y.2)) ys i))).1 112 a = nI 4 from hk]
    refine ⟨fun _ => ?_, fun c => absurd (by decide) c⟩
    conv => whnf
    refine ⟨vp_in_nI (by show _ < 6300; omega) (by decide), ?_⟩
    conv => whnf
    rw [nI_clamp (n := a) (by omega), show (v4 M q o f (c5 g (2 ^ W) (rotA (gS1 t c) (fun y : R4 × Nat => (t8n 2 y.1, y.2)) ys i))).1 112 a = nI 4 from hk]
    refine ⟨fun c => absurd rfl c, fun _ => ?_⟩
    conv => whnf
    refine am_c0 (ct_turnAt (d := d + 2) (e := 2) h8 hi (by decide)) ?_
    rw [rotA_at, rotA_s (F := fun y : R4 × Nat => (t8n 2 y.1, y.2)) hS]
    conv => whnf
    exact hK _ _ _ _
set_option maxRecDepth 100000 in
theorem rp_5 {P : am_Q} {X : am_X} {a t s c W : Nat} {ys : Nat → R4 × Nat} (hX : am_K (d + 4) false nm_X12_apply P X) (ho : rop M a 5 t s c W) (hap : apo 5 t s c W) (hP : ∀ q o f, P (.inl none) (v4 M q o f (c5 g (2 ^ W) (rotA (gS1 t c) (fun y : R4 × Nat => (t8n 1 y.1, y.2)) ys  (2 ^ W))))) : ∀ (m i : Nat), i + m = 2 ^ W → ∀ q o f l6, X 34 [some (aR 108), some (aI (nI a)), some (aI (nI c)), some (aI (nI (2 ^ t))), some (aI (nI (2 ^ s))), some (aI (nI i)), l6] [] (v4 M q o f (c5 g (2 ^ W) (rotA (gS1 t c) (fun y : R4 × Nat => (t8n 1 y.1, y.2)) ys i))) := by
  have ho' := ho
  obtain ⟨ha, w8, hw, hk, ht, hs, hc, hs8⟩ := ho
  obtain ⟨htw, hcw, hct, h8s⟩ := hap
  have h8 := w256 w8
  have htl : 2 ^ t < 2 ^ W := Nat.pow_lt_pow_right (by decide) htw
  refine rp_l (k := 5) hX ho' (fun i hi q o f l6 hK => ?_) hP
  refine rp_h (k := 5) (s := s) hX w8 htw hcw hi l6 (fun hA => ?_) (fun hS => ?_) (fun hS => ?_)
  · rw [rotA_n (fun q => hA q.1)]
    exact hK _ _ _ _
  · refine am_run hX 5 _ _ _ _ ?_
    conv => whnf
    refine ⟨vp_in_nI (by show _ < 6300; omega) (by decide), ?_⟩
    conv => whnf
    rw [nI_clamp (n := a) (by omega), show (v4 M q o f (c5 g (2 ^ W) (rotA (gS1 t c) (fun y : R4 × Nat => (t8n 1 y.1, y.2)) ys i))).1 112 a = nI 5 from hk]
    refine ⟨fun c => absurd c (by decide), fun _ => ?_⟩
    conv => whnf
    refine ⟨fun c => absurd c (by decide), fun _ => ?_⟩
    conv => whnf
    refine ⟨fun c => absurd c (by decide), fun _ => ?_⟩
    conv => whnf
    refine ⟨fun c => absurd c (by decide), fun _ => ?_⟩
    conv => whnf
    refine ⟨fun c => absurd c (by decide), fun _ => ?_⟩
    conv => whnf
    refine ⟨fun _ => ?_, fun c => absurd rfl c⟩
    refine am_run hX 2 _ _ _ _ ?_
    conv => whnf
    refine ⟨fun _ => ?_, fun c => absurd rfl c⟩
    rw [rotA_n (fun q => by have := q.2; rw [hS.2] at this; exact absurd this (by decide))]
    exact hK _ _ _ _
  · refine am_run hX 5 _ _ _ _ ?_
    conv => whnf
    refine ⟨vp_in_nI (by show _ < 6300; omega) (by decide), ?_⟩
    conv => whnf
    rw [nI_clamp (n := a) (by omega), show (v4 M q o f (c5 g (2 ^ W) (rotA (gS1 t c) (fun y : R4 × Nat => (t8n 1 y.1, y.2)) ys i))).1 112 a = nI 5 from hk]
    refine ⟨fun c => absurd c (by decide), fun _ => ?_⟩
    conv => whnf
    refine ⟨fun c => absurd c (by decide), fun _ => ?_⟩
    conv => whnf
    refine ⟨fun c => absurd c (by decide), fun _ => ?_⟩
    conv => whnf
    refine ⟨fun c => absurd c (by decide), fun _ => ?_⟩
    conv => whnf
    refine ⟨fun c => absurd c (by decide), fun _ => ?_⟩
    conv => whnf
    refine ⟨fun _ => ?_, fun c => absurd rfl c⟩
    refine am_run hX 2 _ _ _ _ ?_
    conv => whnf
    refine ⟨fun c => absurd c (by decide), fun _ => ?_⟩
    refine am_run hX 23 _ _ _ _ ?_
    conv => whnf
    refine ⟨vp_in_nI (by show _ < 6300; omega) (by decide), ?_⟩
    conv => whnf
    rw [nI_clamp (n := a) (by omega), show (v4 M q o f (c5 g (2 ^ W) (rotA (gS1 t c) (fun y : R4 × Nat => (t8n 1 y.1, y.2)) ys i))).1 112 a = nI 5 from hk]
    refine ⟨fun _ => ?_, fun c => absurd (by decide) c⟩
    conv => whnf
    refine ⟨vp_in_nI (by show _ < 6300; omega) (by decide), ?_⟩
    conv => whnf
    rw [nI_clamp (n := a) (by omega), show (v4 M q o f (c5 g (2 ^ W) (rotA (gS1 t c) (fun y : R4 × Nat => (t8n 1 y.1, y.2)) ys i))).1 112 a = nI 5 from hk]
    refine ⟨fun _ => ?_, fun c => absurd (by decide) c⟩
    conv => whnf
    refine ⟨vp_in_nI (by show _ < 6300; omega) (by decide), ?_⟩
    conv => whnf
    rw [nI_clamp (n := a) (by omega), show (v4 M q o f (c5 g (2 ^ W) (rotA (gS1 t c) (fun y : R4 × Nat => (t8n 1 y.1, y.2)) ys i))).1 112 a = nI 5 from hk]
    refine ⟨fun c => absurd rfl c, fun _ => ?_⟩
    conv => whnf
    refine am_c0 (ct_turnAt (d := d + 2) (e := 1) h8 hi (by decide)) ?_
    rw [rotA_at, rotA_s (F := fun y : R4 × Nat => (t8n 1 y.1, y.2)) hS]
    conv => whnf
    exact hK _ _ _ _
set_option maxRecDepth 100000 in
theorem rp_6 {P : am_Q} {X : am_X} {a t s c W : Nat} {ys : Nat → R4 × Nat} (hX : am_K (d + 4) false nm_X12_apply P X) (ho : rop M a 6 t s c W) (hap : apo 6 t s c W) (hP : ∀ q o f, P (.inl none) (v4 M q o f (c5 g (2 ^ W) (rotA (gS1 t c) (fun y : R4 × Nat => (t8n 6 y.1, y.2)) ys  (2 ^ W))))) : ∀ (m i : Nat), i + m = 2 ^ W → ∀ q o f l6, X 34 [some (aR 108), some (aI (nI a)), some (aI (nI c)), some (aI (nI (2 ^ t))), some (aI (nI (2 ^ s))), some (aI (nI i)), l6] [] (v4 M q o f (c5 g (2 ^ W) (rotA (gS1 t c) (fun y : R4 × Nat => (t8n 6 y.1, y.2)) ys i))) := by
  have ho' := ho
  obtain ⟨ha, w8, hw, hk, ht, hs, hc, hs8⟩ := ho
  obtain ⟨htw, hcw, hct, h8s⟩ := hap
  have h8 := w256 w8
  have htl : 2 ^ t < 2 ^ W := Nat.pow_lt_pow_right (by decide) htw
  refine rp_l (k := 6) hX ho' (fun i hi q o f l6 hK => ?_) hP
  refine rp_h (k := 6) (s := s) hX w8 htw hcw hi l6 (fun hA => ?_) (fun hS => ?_) (fun hS => ?_)
  · rw [rotA_n (fun q => hA q.1)]
    exact hK _ _ _ _
  · refine am_run hX 5 _ _ _ _ ?_
    conv => whnf
    refine ⟨vp_in_nI (by show _ < 6300; omega) (by decide), ?_⟩
    conv => whnf
    rw [nI_clamp (n := a) (by omega), show (v4 M q o f (c5 g (2 ^ W) (rotA (gS1 t c) (fun y : R4 × Nat => (t8n 6 y.1, y.2)) ys i))).1 112 a = nI 6 from hk]
    refine ⟨fun c => absurd c (by decide), fun _ => ?_⟩
    conv => whnf
    refine ⟨fun c => absurd c (by decide), fun _ => ?_⟩
    conv => whnf
    refine ⟨fun c => absurd c (by decide), fun _ => ?_⟩
    conv => whnf
    refine ⟨fun c => absurd c (by decide), fun _ => ?_⟩
    conv => whnf
    refine ⟨fun c => absurd c (by decide), fun _ => ?_⟩
    conv => whnf
    refine ⟨fun c => absurd c (by decide), fun _ => ?_⟩
    conv => whnf
    refine ⟨fun _ => ?_, fun c => absurd rfl c⟩
    refine am_run hX 2 _ _ _ _ ?_
    conv => whnf
    refine ⟨fun _ => ?_, fun c => absurd rfl c⟩
    rw [rotA_n (fun q => by have := q.2; rw [hS.2] at this; exact absurd this (by decide))]
    exact hK _ _ _ _
  · refine am_run hX 5 _ _ _ _ ?_
    conv => whnf
    refine ⟨vp_in_nI (by show _ < 6300; omega) (by decide), ?_⟩
    conv => whnf
    rw [nI_clamp (n := a) (by omega), show (v4 M q o f (c5 g (2 ^ W) (rotA (gS1 t c) (fun y : R4 × Nat => (t8n 6 y.1, y.2)) ys i))).1 112 a = nI 6 from hk]
    refine ⟨fun c => absurd c (by decide), fun _ => ?_⟩
    conv => whnf
    refine ⟨fun c => absurd c (by decide), fun _ => ?_⟩
    conv => whnf
    refine ⟨fun c => absurd c (by decide), fun _ => ?_⟩
    conv => whnf
    refine ⟨fun c => absurd c (by decide), fun _ => ?_⟩
    conv => whnf
    refine ⟨fun c => absurd c (by decide), fun _ => ?_⟩
    conv => whnf
    refine ⟨fun c => absurd c (by decide), fun _ => ?_⟩
    conv => whnf
    refine ⟨fun _ => ?_, fun c => absurd rfl c⟩
    refine am_run hX 2 _ _ _ _ ?_
    conv => whnf
    refine ⟨fun c => absurd c (by decide), fun _ => ?_⟩
    refine am_run hX 29 _ _ _ _ ?_
    conv => whnf
    refine ⟨vp_in_nI (by show _ < 6300; omega) (by decide), ?_⟩
    conv => whnf
    rw [nI_clamp (n := a) (by omega), show (v4 M q o f (c5 g (2 ^ W) (rotA (gS1 t c) (fun y : R4 × Nat => (t8n 6 y.1, y.2)) ys i))).1 112 a = nI 6 from hk]
    refine ⟨fun _ => ?_, fun c => absurd (by decide) c⟩
    conv => whnf
    refine ⟨vp_in_nI (by show _ < 6300; omega) (by decide), ?_⟩
    conv => whnf
    rw [nI_clamp (n := a) (by omega), show (v4 M q o f (c5 g (2 ^ W) (rotA (gS1 t c) (fun y : R4 × Nat => (t8n 6 y.1, y.2)) ys i))).1 112 a = nI 6 from hk]
    refine ⟨fun _ => ?_, fun c => absurd (by decide) c⟩
    conv => whnf
    refine ⟨vp_in_nI (by show _ < 6300; omega) (by decide), ?_⟩
    conv => whnf
    rw [nI_clamp (n := a) (by omega), show (v4 M q o f (c5 g (2 ^ W) (rotA (gS1 t c) (fun y : R4 × Nat => (t8n 6 y.1, y.2)) ys i))).1 112 a = nI 6 from hk]
    refine ⟨fun _ => ?_, fun c => absurd (by decide) c⟩
    conv => whnf
    refine ⟨vp_in_nI (by show _ < 6300; omega) (by decide), ?_⟩
    conv => whnf
    rw [nI_clamp (n := a) (by omega), show (v4 M q o f (c5 g (2 ^ W) (rotA (gS1 t c) (fun y : R4 × Nat => (t8n 6 y.1, y.2)) ys i))).1 112 a = nI 6 from hk]
    refine ⟨fun c => absurd rfl c, fun _ => ?_⟩
    conv => whnf
    refine am_c0 (ct_turnAt (d := d + 2) (e := 6) h8 hi (by decide)) ?_
    rw [rotA_at, rotA_s (F := fun y : R4 × Nat => (t8n 6 y.1, y.2)) hS]
    conv => whnf
    exact hK _ _ _ _
set_option maxRecDepth 100000 in
theorem rp_7 {P : am_Q} {X : am_X} {a t s c W : Nat} {ys : Nat → R4 × Nat} (hX : am_K (d + 4) false nm_X12_apply P X) (ho : rop M a 7 t s c W) (hap : apo 7 t s c W) (hP : ∀ q o f, P (.inl none) (v4 M q o f (c5 g (2 ^ W) (rotA (gS1 t c) (fun y : R4 × Nat => (t8n 7 y.1, y.2)) ys  (2 ^ W))))) : ∀ (m i : Nat), i + m = 2 ^ W → ∀ q o f l6, X 34 [some (aR 108), some (aI (nI a)), some (aI (nI c)), some (aI (nI (2 ^ t))), some (aI (nI (2 ^ s))), some (aI (nI i)), l6] [] (v4 M q o f (c5 g (2 ^ W) (rotA (gS1 t c) (fun y : R4 × Nat => (t8n 7 y.1, y.2)) ys i))) := by
  have ho' := ho
  obtain ⟨ha, w8, hw, hk, ht, hs, hc, hs8⟩ := ho
  obtain ⟨htw, hcw, hct, h8s⟩ := hap
  have h8 := w256 w8
  have htl : 2 ^ t < 2 ^ W := Nat.pow_lt_pow_right (by decide) htw
  refine rp_l (k := 7) hX ho' (fun i hi q o f l6 hK => ?_) hP
  refine rp_h (k := 7) (s := s) hX w8 htw hcw hi l6 (fun hA => ?_) (fun hS => ?_) (fun hS => ?_)
  · rw [rotA_n (fun q => hA q.1)]
    exact hK _ _ _ _
  · refine am_run hX 5 _ _ _ _ ?_
    conv => whnf
    refine ⟨vp_in_nI (by show _ < 6300; omega) (by decide), ?_⟩
    conv => whnf
    rw [nI_clamp (n := a) (by omega), show (v4 M q o f (c5 g (2 ^ W) (rotA (gS1 t c) (fun y : R4 × Nat => (t8n 7 y.1, y.2)) ys i))).1 112 a = nI 7 from hk]
    refine ⟨fun c => absurd c (by decide), fun _ => ?_⟩
    conv => whnf
    refine ⟨fun c => absurd c (by decide), fun _ => ?_⟩
    conv => whnf
    refine ⟨fun c => absurd c (by decide), fun _ => ?_⟩
    conv => whnf
    refine ⟨fun c => absurd c (by decide), fun _ => ?_⟩
    conv => whnf
    refine ⟨fun c => absurd c (by decide), fun _ => ?_⟩
    conv => whnf
    refine ⟨fun c => absurd c (by decide), fun _ => ?_⟩
    conv => whnf
    refine ⟨fun c => absurd c (by decide), fun _ => ?_⟩
    conv => whnf
    refine ⟨fun _ => ?_, fun c => absurd rfl c⟩
    refine am_run hX 2 _ _ _ _ ?_
    conv => whnf
    refine ⟨fun _ => ?_, fun c => absurd rfl c⟩
    rw [rotA_n (fun q => by have := q.2; rw [hS.2] at this; exact absurd this (by decide))]
    exact hK _ _ _ _
  · refine am_run hX 5 _ _ _ _ ?_
    conv => whnf
    refine ⟨vp_in_nI (by show _ < 6300; omega) (by decide), ?_⟩
    conv => whnf
    rw [nI_clamp (n := a) (by omega), show (v4 M q o f (c5 g (2 ^ W) (rotA (gS1 t c) (fun y : R4 × Nat => (t8n 7 y.1, y.2)) ys i))).1 112 a = nI 7 from hk]
    refine ⟨fun c => absurd c (by decide), fun _ => ?_⟩
    conv => whnf
    refine ⟨fun c => absurd c (by decide), fun _ => ?_⟩
    conv => whnf
    refine ⟨fun c => absurd c (by decide), fun _ => ?_⟩
    conv => whnf
    refine ⟨fun c => absurd c (by decide), fun _ => ?_⟩
    conv => whnf
    refine ⟨fun c => absurd c (by decide), fun _ => ?_⟩
    conv => whnf
    refine ⟨fun c => absurd c (by decide), fun _ => ?_⟩
    conv => whnf
    refine ⟨fun c => absurd c (by decide), fun _ => ?_⟩
    conv => whnf
    refine ⟨fun _ => ?_, fun c => absurd rfl c⟩
    refine am_run hX 2 _ _ _ _ ?_
    conv => whnf
    refine ⟨fun c => absurd c (by decide), fun _ => ?_⟩
    refine am_run hX 28 _ _ _ _ ?_
    conv => whnf
    refine ⟨vp_in_nI (by show _ < 6300; omega) (by decide), ?_⟩
    conv => whnf
    rw [nI_clamp (n := a) (by omega), show (v4 M q o f (c5 g (2 ^ W) (rotA (gS1 t c) (fun y : R4 × Nat => (t8n 7 y.1, y.2)) ys i))).1 112 a = nI 7 from hk]
    refine ⟨fun _ => ?_, fun c => absurd (by decide) c⟩
    conv => whnf
    refine ⟨vp_in_nI (by show _ < 6300; omega) (by decide), ?_⟩
    conv => whnf
    rw [nI_clamp (n := a) (by omega), show (v4 M q o f (c5 g (2 ^ W) (rotA (gS1 t c) (fun y : R4 × Nat => (t8n 7 y.1, y.2)) ys i))).1 112 a = nI 7 from hk]
    refine ⟨fun _ => ?_, fun c => absurd (by decide) c⟩
    conv => whnf
    refine ⟨vp_in_nI (by show _ < 6300; omega) (by decide), ?_⟩
    conv => whnf
    rw [nI_clamp (n := a) (by omega), show (v4 M q o f (c5 g (2 ^ W) (rotA (gS1 t c) (fun y : R4 × Nat => (t8n 7 y.1, y.2)) ys i))).1 112 a = nI 7 from hk]
    refine ⟨fun _ => ?_, fun c => absurd (by decide) c⟩
    conv => whnf
    refine ⟨vp_in_nI (by show _ < 6300; omega) (by decide), ?_⟩
    conv => whnf
    rw [nI_clamp (n := a) (by omega), show (v4 M q o f (c5 g (2 ^ W) (rotA (gS1 t c) (fun y : R4 × Nat => (t8n 7 y.1, y.2)) ys i))).1 112 a = nI 7 from hk]
    refine ⟨fun _ => ?_, fun c => absurd (by decide) c⟩
    conv => whnf
    refine am_c0 (ct_turnAt (d := d + 2) (e := 7) h8 hi (by decide)) ?_
    rw [rotA_at, rotA_s (F := fun y : R4 × Nat => (t8n 7 y.1, y.2)) hS]
    conv => whnf
    exact hK _ _ _ _
end RPL
