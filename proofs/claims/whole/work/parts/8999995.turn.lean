/-! TURN: the second program's bases, its loops; both programs; the pair -/
section TRP
variable {d : Nat} {M : mm_M} {n X Z : Nat}
set_option maxRecDepth 100000 in
theorem lb_0 {P : am_Q} {Y : am_X} {l0 : List bk_X} (hX : am_K (d + 1) false nm_X12_layBases P Y) (h6 : M.1 108 6 = nI n) (hn : n < 20) (x8 : X < 256) (z8 : Z < 256) (hK : ∀ l4 l5 l6, Y 112 [some (aR 108), some (aI (nI X)), some (aI (nI Z)), some (aI 0), l4, l5, l6] [] (llM M n (l0 ++ bs1 X Z 8))) : ∀ (m i : Nat) (l5 l6 : Option am_V), i + m = 8 → Y 3 [some (aR 108), some (aI (nI X)), some (aI (nI Z)), some (aI 0), some (aI (nI i)), l5, l6] [] (llM M n (l0 ++ bs1 X Z i)) := by
  intro m
  induction m with
  | zero =>
    intro i l5 l6 hi
    have hi : i = 8 := by omega
    subst hi
    refine am_run hX 3 _ _ _ _ ?_
    conv => whnf
    exact ⟨fun _ => hK _ _ _, fun c => absurd (by decide) c⟩
  | succ m ih =>
    intro i l5 l6 hi
    have ih := ih (i + 1)
    have e1 : bs1 X Z (i + 1) = bs1 X Z i ++ (if bt X i = 0 then [] else if bt Z i = 0 then [o1 3 i] else [o1 6 i, o1 3 i]) := rfl
    rw [e1] at ih
    have bx := bt_lt X i
    have bz := bt_lt Z i
    refine am_run hX 3 _ _ _ _ ?_
    conv => whnf
    refine ⟨fun c => absurd c (nI_ge (b := 8) (by omega) (by decide)), fun _ => ?_⟩
    by_cases c : bt X i = 0
    · rw [if_pos c, List.append_nil] at ih
      refine am_run hX 21 _ _ _ _ ?_
      conv => whnf
      rw [nI_bt (by omega) (by omega), c]
      refine ⟨fun _ => ?_, fun c => absurd (by decide) c⟩
      conv => whnf
      refine ⟨fun _ => ?_, fun c => absurd (by decide) c⟩
      conv => whnf
      refine ⟨fun _ => ?_, fun c => absurd (by decide) c⟩
      conv => whnf
      refine ⟨fun _ => ?_, fun c => absurd (by decide) c⟩
      conv => whnf
      refine ⟨fun _ => ?_, fun c => absurd (by decide) c⟩
      conv => whnf
      rw [nI_1]
      exact ih _ _ (by omega)
    · have c1 : bt X i = 1 := by omega
      rw [if_neg c] at ih
      by_cases cz : bt Z i = 0
      · rw [if_pos cz] at ih
        refine am_run hX 37 _ _ _ _ ?_
        conv => whnf
        rw [nI_bt (by omega) (by omega), c1]
        refine ⟨fun c => absurd rfl c, fun _ => ?_⟩
        conv => whnf
        refine ⟨fun c => absurd c (by decide), fun _ => ?_⟩
        conv => whnf
        rw [nI_bt (by omega) (by omega), cz]
        refine ⟨fun _ => ?_, fun c => absurd (by decide) c⟩
        conv => whnf
        refine ⟨fun _ => ?_, fun c => absurd (by decide) c⟩
        conv => whnf
        refine ⟨fun c => absurd c (by decide), fun _ => ?_⟩
        conv => whnf
        refine am_c0 (ly_1 (k := 3) h6 hn (by decide)) ?_
        conv => whnf
        refine ⟨fun _ => ?_, fun c => absurd (by decide) c⟩
        conv => whnf
        rw [nI_1, List.append_assoc]
        exact ih _ _ (by omega)
      · have cz1 : bt Z i = 1 := by omega
        rw [if_neg cz] at ih
        refine am_run hX 50 _ _ _ _ ?_
        conv => whnf
        rw [nI_bt (by omega) (by omega), c1]
        refine ⟨fun c => absurd rfl c, fun _ => ?_⟩
        conv => whnf
        refine ⟨fun c => absurd c (by decide), fun _ => ?_⟩
        conv => whnf
        rw [nI_bt (by omega) (by omega), cz1]
        refine ⟨fun c => absurd rfl c, fun _ => ?_⟩
        conv => whnf
        refine ⟨fun c => absurd c (by decide), fun _ => ?_⟩
        conv => whnf
        refine ⟨fun c => absurd rfl c, fun _ => ?_⟩
        conv => whnf
        refine am_c0 (ly_1 (k := 6) h6 hn (by decide)) ?_
        conv => whnf
        refine ⟨fun c => absurd c (by decide), fun _ => ?_⟩
        conv => whnf
        refine am_c0 (ly_1 (k := 3) h6 hn (by decide)) ?_
        conv => whnf
        refine ⟨fun c => absurd c (by decide), fun _ => ?_⟩
        conv => whnf
        refine ⟨fun _ => ?_, fun c => absurd rfl c⟩
        conv => whnf
        rw [nI_1, List.append_assoc, List.append_assoc]
        exact ih _ _ (by omega)
set_option maxRecDepth 100000 in
theorem ct_lb0 {l : List bk_X} (h6 : M.1 108 6 = nI n) (hn : n < 20) (x8 : X < 256) (z8 : Z < 256) : am_M (d + 2) false nm_X12_layBases [aR 108, aI (nI X), aI (nI Z), aI 0] (llM M n l) (am_q0 (llM M n (l ++ bs1 X Z 8))) := by
  refine ⟨rfl, rfl, rfl, fun Y hX => am_run hX 2 _ _ _ _ ?_⟩
  conv => whnf
  have k := lb_0 (l0 := l) hX h6 hn x8 z8 (fun l4 l5 l6 => by
    refine am_run hX 1 _ _ _ _ ?_
    conv => whnf
    exact ⟨trivial, rfl, rfl⟩) 8 0 none none (by omega)
  rw [show bs1 X Z 0 = [] from rfl, List.append_nil] at k
  exact k
set_option maxRecDepth 100000 in
theorem lb_1 {P : am_Q} {Y : am_X} {l0 : List bk_X} (hX : am_K (d + 1) false nm_X12_layBases P Y) (h6 : M.1 108 6 = nI n) (hn : n < 20) (x8 : X < 256) (z8 : Z < 256) (hK : ∀ l4 l5 l6, Y 112 [some (aR 108), some (aI (nI X)), some (aI (nI Z)), some (aI 1), l4, l5, l6] [] (llM M n (l0 ++ bs2 X Z 8))) : ∀ (m i : Nat) (l5 l6 : Option am_V), i + m = 8 → Y 3 [some (aR 108), some (aI (nI X)), some (aI (nI Z)), some (aI 1), some (aI (nI i)), l5, l6] [] (llM M n (l0 ++ bs2 X Z i)) := by
  intro m
  induction m with
  | zero =>
    intro i l5 l6 hi
    have hi : i = 8 := by omega
    subst hi
    refine am_run hX 3 _ _ _ _ ?_
    conv => whnf
    exact ⟨fun _ => hK _ _ _, fun c => absurd (by decide) c⟩
  | succ m ih =>
    intro i l5 l6 hi
    have ih := ih (i + 1)
    have e1 : bs2 X Z (i + 1) = bs2 X Z i ++ (if bt X i = 0 then [] else if bt Z i = 0 then [o1 3 i] else [o1 3 i, o1 4 i]) := rfl
    rw [e1] at ih
    have bx := bt_lt X i
    have bz := bt_lt Z i
    refine am_run hX 3 _ _ _ _ ?_
    conv => whnf
    refine ⟨fun c => absurd c (nI_ge (b := 8) (by omega) (by decide)), fun _ => ?_⟩
    by_cases c : bt X i = 0
    · rw [if_pos c, List.append_nil] at ih
      refine am_run hX 21 _ _ _ _ ?_
      conv => whnf
      rw [nI_bt (by omega) (by omega), c]
      refine ⟨fun _ => ?_, fun c => absurd (by decide) c⟩
      conv => whnf
      refine ⟨fun _ => ?_, fun c => absurd (by decide) c⟩
      conv => whnf
      refine ⟨fun _ => ?_, fun c => absurd (by decide) c⟩
      conv => whnf
      refine ⟨fun _ => ?_, fun c => absurd (by decide) c⟩
      conv => whnf
      refine ⟨fun _ => ?_, fun c => absurd (by decide) c⟩
      conv => whnf
      rw [nI_1]
      exact ih _ _ (by omega)
    · have c1 : bt X i = 1 := by omega
      rw [if_neg c] at ih
      by_cases cz : bt Z i = 0
      · rw [if_pos cz] at ih
        refine am_run hX 37 _ _ _ _ ?_
        conv => whnf
        rw [nI_bt (by omega) (by omega), c1]
        refine ⟨fun c => absurd rfl c, fun _ => ?_⟩
        conv => whnf
        refine ⟨fun c => absurd c (by decide), fun _ => ?_⟩
        conv => whnf
        rw [nI_bt (by omega) (by omega), cz]
        refine ⟨fun _ => ?_, fun c => absurd (by decide) c⟩
        conv => whnf
        refine ⟨fun _ => ?_, fun c => absurd (by decide) c⟩
        conv => whnf
        refine ⟨fun c => absurd c (by decide), fun _ => ?_⟩
        conv => whnf
        refine am_c0 (ly_1 (k := 3) h6 hn (by decide)) ?_
        conv => whnf
        refine ⟨fun _ => ?_, fun c => absurd (by decide) c⟩
        conv => whnf
        rw [nI_1, List.append_assoc]
        exact ih _ _ (by omega)
      · have cz1 : bt Z i = 1 := by omega
        rw [if_neg cz] at ih
        refine am_run hX 50 _ _ _ _ ?_
        conv => whnf
        rw [nI_bt (by omega) (by omega), c1]
        refine ⟨fun c => absurd rfl c, fun _ => ?_⟩
        conv => whnf
        refine ⟨fun c => absurd c (by decide), fun _ => ?_⟩
        conv => whnf
        rw [nI_bt (by omega) (by omega), cz1]
        refine ⟨fun c => absurd rfl c, fun _ => ?_⟩
        conv => whnf
        refine ⟨fun c => absurd c (by decide), fun _ => ?_⟩
        conv => whnf
        refine ⟨fun _ => ?_, fun c => absurd (by decide) c⟩
        conv => whnf
        refine ⟨fun c => absurd c (by decide), fun _ => ?_⟩
        conv => whnf
        refine am_c0 (ly_1 (k := 3) h6 hn (by decide)) ?_
        conv => whnf
        refine ⟨fun c => absurd c (by decide), fun _ => ?_⟩
        conv => whnf
        refine ⟨fun c => absurd c (by decide), fun _ => ?_⟩
        conv => whnf
        refine am_c0 (ly_1 (k := 4) h6 hn (by decide)) ?_
        conv => whnf
        rw [nI_1, List.append_assoc, List.append_assoc]
        exact ih _ _ (by omega)
set_option maxRecDepth 100000 in
theorem ct_lb1 {l : List bk_X} (h6 : M.1 108 6 = nI n) (hn : n < 20) (x8 : X < 256) (z8 : Z < 256) : am_M (d + 2) false nm_X12_layBases [aR 108, aI (nI X), aI (nI Z), aI 1] (llM M n l) (am_q0 (llM M n (l ++ bs2 X Z 8))) := by
  refine ⟨rfl, rfl, rfl, fun Y hX => am_run hX 2 _ _ _ _ ?_⟩
  conv => whnf
  have k := lb_1 (l0 := l) hX h6 hn x8 z8 (fun l4 l5 l6 => by
    refine am_run hX 1 _ _ _ _ ?_
    conv => whnf
    exact ⟨trivial, rfl, rfl⟩) 8 0 none none (by omega)
  rw [show bs2 X Z 0 = [] from rfl, List.append_nil] at k
  exact k
variable {c W e : Nat} {a5 : Int32}
set_option maxRecDepth 100000 in
theorem tm_up {P : am_Q} {Y : am_X} {l0 : List bk_X} (hX : am_K (d + 1) false nm_X12_turn P Y) (h6 : M.1 108 6 = nI n) (hn : n < 20) (hc : c < n) (hW : M.1 110 c = nI W) (w8 : W ≤ 8) (s8 : X ||| Z < 256) (hK : ∀ l7 l8, Y 153 [some (aR 108), some (aI (nI c)), some (aI (nI X)), some (aI (nI Z)), some (aI (nI e)), some (aI a5), some (aI (nI (ups (X ||| Z) W).2 - 1)), l7, l8] [] (llM M n (l0 ++ (ups (X ||| Z) W).1))) : ∀ (m i : Nat) (l8 : Option am_V), i + m = W → Y 98 [some (aR 108), some (aI (nI c)), some (aI (nI X)), some (aI (nI Z)), some (aI (nI e)), some (aI a5), some (aI (nI (ups (X ||| Z) i).2 - 1)), some (aI (nI i)), l8] [] (llM M n (l0 ++ (ups (X ||| Z) i).1)) := by
  intro m
  induction m with
  | zero =>
    intro i l8 hi
    have hi : i = W := by omega
    subst hi
    refine am_run hX 6 _ _ _ _ ?_
    conv => whnf
    refine ⟨vp_in_nI (by show c < 21; omega) (by decide), ?_⟩
    conv => whnf
    rw [nI_clamp (n := c) (by omega), ll_r _ _ _ (by decide) (by decide), hW]
    exact ⟨fun _ => hK _ _, fun q => absurd (nI_le (Nat.le_refl _) (by omega)) q⟩
  | succ m ih =>
    intro i l8 hi
    have ih := ih (i + 1) l8 (by omega)
    have bs := bt_lt (X ||| Z) i
    have e1 : ups (X ||| Z) (i + 1) = if bt (X ||| Z) i = 0 then ups (X ||| Z) i else (if (ups (X ||| Z) i).2 = 0 then (ups (X ||| Z) i).1 else (ups (X ||| Z) i).1 ++ [oX i ((ups (X ||| Z) i).2 - 1)], i + 1) := rfl
    have ub : (ups (X ||| Z) i).2 ≤ i := by
      clear ih e1 bs hi hK hX
      induction i with
      | zero => exact Nat.le_refl _
      | succ i ih =>
        show (if bt (X ||| Z) i = 0 then ups (X ||| Z) i else _).2 ≤ _
        by_cases q : bt (X ||| Z) i = 0
        · rw [if_pos q]; omega
        · rw [if_neg q]; exact Nat.le_refl _
    refine am_run hX 6 _ _ _ _ ?_
    conv => whnf
    refine ⟨vp_in_nI (by show c < 21; omega) (by decide), ?_⟩
    conv => whnf
    rw [nI_clamp (n := c) (by omega), ll_r _ _ _ (by decide) (by decide), hW]
    refine ⟨fun q => absurd q (nI_ge (by omega) (by omega)), fun _ => ?_⟩
    refine am_run hX 8 _ _ _ _ ?_
    conv => whnf
    rw [nI_or, nI_bt (by omega) (by omega)]
    by_cases q : bt (X ||| Z) i = 0
    · rw [e1, if_pos q] at ih
      rw [q]
      refine ⟨fun z => absurd rfl z, fun _ => ?_⟩
      refine am_run hX 3 _ _ _ _ ?_
      conv => whnf
      rw [nI_1]
      exact ih
    · have q1 : bt (X ||| Z) i = 1 := by omega
      rw [e1, if_neg q] at ih
      rw [q1]
      refine ⟨fun _ => ?_, fun z => absurd (by decide) z⟩
      have fin : ∀ l, l0 ++ (if (ups (X ||| Z) i).2 = 0 then (ups (X ||| Z) i).1 else (ups (X ||| Z) i).1 ++ [oX i ((ups (X ||| Z) i).2 - 1)]) = l → Y 143 [some (aR 108), some (aI (nI c)), some (aI (nI X)), some (aI (nI Z)), some (aI (nI e)), some (aI a5), some (aI (nI (ups (X ||| Z) i).2 - 1)), some (aI (nI i)), l8] [] (llM M n l) := fun l hl => by
        refine am_run hX 4 _ _ _ _ ?_
        conv => whnf
        rw [nI_1, ← hl]
        have ih2 := ih
        rw [show nI (i + 1) - 1 = nI i from nI_s1 (i + 1) (by omega)] at ih2
        exact ih2
      refine am_run hX 3 _ _ _ _ ?_
      conv => whnf
      by_cases u0 : (ups (X ||| Z) i).2 = 0
      · refine ⟨fun _ => fin _ (by rw [if_pos u0]), fun z => absurd (by rw [u0]; decide) z⟩
      · rw [nI_s1 _ (by omega)] at fin ⊢
        refine ⟨fun z => absurd z (nI_nm (by omega)), fun _ => ?_⟩
        refine am_run hX 10 _ _ _ _ ?_
        conv => whnf
        rw [sh2 _ (by omega)]
        refine am_c0 (ly_X h6 hn) ?_
        conv => whnf
        refine fin _ ?_
        rw [if_neg u0, List.append_assoc]
set_option maxRecDepth 100000 in
theorem tm_dn {P : am_Q} {Y : am_X} {q6 : Int32} (hX : am_K (d + 1) false nm_X12_turn P Y) (h6 : M.1 108 6 = nI n) (hn : n < 20) (s8 : X ||| Z < 256) : ∀ (i q : Nat) (l0 LL : List bk_X), i ≤ 8 → LL = l0 ++ dns (X ||| Z) i q → (∀ l7 l8, Y 214 [some (aR 108), some (aI (nI c)), some (aI (nI X)), some (aI (nI Z)), some (aI (nI e)), some (aI a5), some (aI q6), l7, l8] [] (llM M n LL)) → Y 171 [some (aR 108), some (aI (nI c)), some (aI (nI X)), some (aI (nI Z)), some (aI (nI e)), some (aI a5), some (aI q6), some (aI (nI q)), some (aI (nI i - 1))] [] (llM M n l0) := by
  intro i
  induction i with
  | zero =>
    intro q l0 LL hi hE hK
    rw [show l0 ++ dns (X ||| Z) 0 q = l0 from List.append_nil _] at hE
    subst hE
    refine am_run hX 2 _ _ _ _ ?_
    conv => whnf
    exact ⟨fun _ => hK _ _, fun c => absurd (by decide) c⟩
  | succ i ih =>
    intro q l0 LL hi hE hK
    have bs := bt_lt (X ||| Z) i
    have e1 : dns (X ||| Z) (i + 1) q = if bt (X ||| Z) i = 0 then dns (X ||| Z) i q else oX q i :: dns (X ||| Z) i i := rfl
    rw [nI_s1 (i + 1) (by omega), show i + 1 - 1 = i from rfl]
    refine am_run hX 2 _ _ _ _ ?_
    conv => whnf
    refine ⟨fun c => absurd c (nI_pos (by omega)), fun _ => ?_⟩
    refine am_run hX 8 _ _ _ _ ?_
    conv => whnf
    rw [nI_or, nI_bt (by omega) (by omega)]
    by_cases z : bt (X ||| Z) i = 0
    · rw [e1, if_pos z] at hE
      rw [z]
      refine ⟨fun q => absurd rfl q, fun _ => ?_⟩
      refine am_run hX 3 _ _ _ _ ?_
      conv => whnf
      rw [← nI_s1']
      exact ih q l0 LL (by omega) hE hK
    · have z1 : bt (X ||| Z) i = 1 := by omega
      rw [e1, if_neg z] at hE
      rw [z1]
      refine ⟨fun _ => ?_, fun q => absurd (by decide) q⟩
      refine am_run hX 14 _ _ _ _ ?_
      conv => whnf
      rw [sh2 _ (by omega)]
      refine am_c0 (ly_X h6 hn) ?_
      conv => whnf
      rw [← nI_s1']
      exact ih i (l0 ++ [oX q i]) LL (by omega) (by rw [hE, List.append_assoc]; rfl) hK
end TRP
