/-! code: the reference examines: one PAULI is counted -/
section EXC
variable {d : Nat} {P : am_Q} {X : am_X} {K : mm_M} {a v w y t : Nat}
def exL (a v w y : Nat) (l5 : Option am_V) : am_L := [some (aR 108), some (aI (nI a)), some (aI (nI v)), some (aI (nI w)), some (aI (nI y)), l5]
set_option maxRecDepth 100000 in
theorem exB {l5 : Option am_V} (hX : am_K (d + 3) false nm_X12_examine P X) (hv : v < 65536) (hw : w < 9) (ht : K.1 181 v = nI t) (t3 : t < 3) (hk : X 253 (exL a v w y l5) [] (mm_i K 182 (upd (K.1 182) w (K.1 182 w + nI (if t = 2 then 1 else 0))))) : X 229 (exL a v w y l5) [] K := by
  have hend : ∀ b : Int32, b = nI (if t = 2 then 1 else 0) → X 251 (exL a v w y l5) [aI b, aI (K.1 182 w), aI (nI w), aR 182] K := by
    intro b hb
    subst hb
    refine am_run hX 2 _ _ _ _ ?_
    conv => whnf
    refine ⟨vp_in_nI (by show w < 9; omega) (by decide), ?_⟩
    rw [nI_clamp (n := w) (by omega)]
    exact hk
  refine am_run hX 11 _ _ _ _ ?_
  conv => whnf
  refine ⟨vp_in_nI (by show w < 9; omega) (by decide), ?_⟩
  conv => whnf
  refine ⟨vp_in_nI (by show v < 65536; omega) (by decide), ?_⟩
  conv => whnf
  rw [nI_clamp (n := w) (by omega), nI_clamp (n := v) (by omega), ht]
  refine ⟨fun c => ?_, fun c => ?_⟩
  · have c0 : ¬ t = 2 := fun e => c (by rw [e]; rfl)
    refine am_run hX 1 _ _ _ _ ?_
    conv => whnf
    exact hend 0 (by rw [if_neg c0]; rfl)
  · have c0 : t = 2 := (nI_eq (b := 2) (by omega) (by decide)).mp (Classical.not_not.mp c)
    refine am_run hX 2 _ _ _ _ ?_
    conv => whnf
    exact hend 1 (by rw [if_pos c0]; rfl)
set_option maxRecDepth 100000 in
theorem ex_C {l5 : Option am_V} (hX : am_K (d + 3) false nm_X12_examine P X) (hv : v < 65536) (hw : w < 9) (ht : K.1 181 v = nI t) (t3 : t < 3) (hk : X 276 (exL a v w y l5) [] (mm_i K 183 (upd (K.1 183) w (K.1 183 w + nI (if 0 < t then 1 else 0))))) : X 253 (exL a v w y l5) [] K := by
  have hend : ∀ b : Int32, b = nI (if 0 < t then 1 else 0) → X 274 (exL a v w y l5) [aI b, aI (K.1 183 w), aI (nI w), aR 183] K := by
    intro b hb
    subst hb
    refine am_run hX 2 _ _ _ _ ?_
    conv => whnf
    refine ⟨vp_in_nI (by show w < 9; omega) (by decide), ?_⟩
    rw [nI_clamp (n := w) (by omega)]
    exact hk
  refine am_run hX 10 _ _ _ _ ?_
  conv => whnf
  refine ⟨vp_in_nI (by show w < 9; omega) (by decide), ?_⟩
  conv => whnf
  refine ⟨vp_in_nI (by show v < 65536; omega) (by decide), ?_⟩
  conv => whnf
  rw [nI_clamp (n := w) (by omega), nI_clamp (n := v) (by omega), ht]
  refine ⟨fun c => ?_, fun c => ?_⟩
  · have c0 : ¬ 0 < t := fun e => nI_ge (a := 0) e (by omega) c
    refine am_run hX 1 _ _ _ _ ?_
    conv => whnf
    exact hend 0 (by rw [if_neg c0]; rfl)
  · have c0 : 0 < t := by
      rcases Nat.lt_or_ge 0 t with q | q
      · exact q
      · exact absurd (nI_le (b := 0) q (by decide)) c
    refine am_run hX 2 _ _ _ _ ?_
    conv => whnf
    exact hend 1 (by rw [if_pos c0]; rfl)
set_option maxRecDepth 100000 in
theorem ex_D {n s : Nat} {l5 : Option am_V} (hX : am_K (d + 3) false nm_X12_examine P X) (n8 : n ≤ 8) (s8 : s ≤ 8) (h110 : K.1 108 110 = nI n) (h111 : K.1 108 111 = nI s) (hv : v < 65536) (hw : w < 9) (ht : K.1 181 v = nI t) (t3 : t < 3) (hk : X 324 (exL a v w y l5) [aI (nI (if s < n then (if t = 1 then 1 else 0) else (if t = 2 ∧ 0 < w then 1 else 0)))] K) : X 276 (exL a v w y l5) [] K := by
  refine am_run hX 5 _ _ _ _ ?_
  conv => whnf
  rw [h110, h111]
  refine ⟨fun c => ?_, fun c => ?_⟩
  · have c0 : ¬ s < n := fun e => nI_ge e (by omega) c
    rw [if_neg c0] at hk
    refine am_run hX 6 _ _ _ _ ?_
    conv => whnf
    refine ⟨vp_in_nI (by show v < 65536; omega) (by decide), ?_⟩
    conv => whnf
    rw [nI_clamp (n := v) (by omega), ht]
    refine ⟨fun c1 => ?_, fun c1 => ?_⟩
    · have c2 : ¬ t = 2 := fun e => c1 (by rw [e]; rfl)
      rw [if_neg (fun q => c2 q.1)] at hk
      refine am_run hX 1 _ _ _ _ ?_
      conv => whnf
      exact hk
    · have c2 : t = 2 := (nI_eq (b := 2) (by omega) (by decide)).mp (Classical.not_not.mp c1)
      refine am_run hX 2 _ _ _ _ ?_
      conv => whnf
      refine ⟨fun c3 => ?_, fun c3 => ?_⟩
      · have c4 : ¬ 0 < w := fun e => nI_ge (a := 0) e (by omega) c3
        rw [if_neg (fun q => c4 q.2)] at hk
        refine am_run hX 1 _ _ _ _ ?_
        conv => whnf
        exact hk
      · have c4 : 0 < w := by
          rcases Nat.lt_or_ge 0 w with q | q
          · exact q
          · exact absurd (nI_le (b := 0) q (by decide)) c3
        rw [if_pos ⟨c2, c4⟩] at hk
        refine am_run hX 2 _ _ _ _ ?_
        conv => whnf
        exact hk
  · have c0 : s < n := by
      rcases Nat.lt_or_ge s n with q | q
      · exact q
      · exact absurd (nI_le q (by omega)) c
    rw [if_pos c0] at hk
    refine am_run hX 6 _ _ _ _ ?_
    conv => whnf
    refine ⟨vp_in_nI (by show v < 65536; omega) (by decide), ?_⟩
    conv => whnf
    rw [nI_clamp (n := v) (by omega), ht]
    refine ⟨fun c1 => ?_, fun c1 => ?_⟩
    · have c2 : ¬ t = 1 := fun e => c1 (by rw [e]; rfl)
      rw [if_neg c2] at hk
      refine am_run hX 2 _ _ _ _ ?_
      conv => whnf
      exact hk
    · have c2 : t = 1 := (nI_eq (b := 1) (by omega) (by decide)).mp (Classical.not_not.mp c1)
      rw [if_pos c2] at hk
      refine am_run hX 2 _ _ _ _ ?_
      conv => whnf
      exact hk
set_option maxRecDepth 100000 in
theorem ex_E {c D : Nat} {l5 : Option am_V} (hX : am_K (d + 3) false nm_X12_examine P X) (hc : c < 2) (hw : w < 9) (hD : D < 100) (h124 : K.1 108 124 = nI D) (hk : X 351 (exL a v w y (some (aI (nI c)))) [] (mm_i K 108 (upd (K.1 108) 124 (nI (if c = 1 ∧ w < D then w else D))))) : X 324 (exL a v w y l5) [aI (nI c)] K := by
  have hno : ¬ (c = 1 ∧ w < D) → X 344 (exL a v w y (some (aI (nI c)))) [aR 108] K := by
    intro h
    rw [if_neg h] at hk
    refine am_run hX 3 _ _ _ _ ?_
    conv => whnf
    rw [h124]
    exact hk
  refine am_run hX 4 _ _ _ _ ?_
  conv => whnf
  refine ⟨fun c1 => ?_, fun c1 => ?_⟩
  · have c0 : c = 0 := (nI_eq (b := 0) (by omega) (by decide)).mp c1
    exact hno (by omega)
  · have c0 : c = 1 := by
      rcases (by omega : c = 0 ∨ c = 1) with e | e
      · exact absurd (by rw [e]; rfl) c1
      · exact e
    refine am_run hX 4 _ _ _ _ ?_
    conv => whnf
    rw [h124]
    refine ⟨fun c2 => ?_, fun c2 => ?_⟩
    · exact hno (fun q => nI_ge q.2 (by omega) c2)
    · have c3 : w < D := by
        rcases Nat.lt_or_ge w D with q | q
        · exact q
        · exact absurd (nI_le q (by omega)) c2
      rw [if_pos ⟨c0, c3⟩] at hk
      refine am_run hX 3 _ _ _ _ ?_
      conv => whnf
      exact hk
set_option maxRecDepth 100000 in
theorem ex_F {n : Nat} {o : Option Nat} {l5 : Option am_V} (hX : am_K (d + 3) false nm_X12_examine P X) (n8 : n ≤ 8) (h110 : K.1 108 110 = nI n) (hv : v < 65536) (hw : wN 8 v = w) (hy : y < 256) (ho : K.1 185 y = oN o) (hb : ∀ u, o = some u → u < 4 ^ n) (hk : X 211 (exL a (v + 1) w y l5) [] (if lsQ o v = true then mm_i K 185 (upd (K.1 185) y (nI v)) else K)) : X 351 (exL a v w y l5) [] K := by
  have hw8 := wN_le 8 v
  have hyes : lsQ o v = true → X 377 (exL a v w y l5) [] K := by
    intro h
    rw [if_pos h] at hk
    refine am_run hX 7 _ _ _ _ ?_
    conv => whnf
    refine ⟨vp_in_nI (by show y < 256; omega) (by decide), ?_⟩
    conv => whnf
    rw [nI_clamp (n := y) (by omega), nI_1]
    exact hk
  refine am_run hX 6 _ _ _ _ ?_
  conv => whnf
  refine ⟨vp_in_nI (by show y < 256; omega) (by decide), ?_⟩
  conv => whnf
  rw [nI_clamp (n := y) (by omega), ho]
  cases o with
  | none => exact ⟨fun _ => hyes rfl, fun c => absurd rfl c⟩
  | some u =>
    have hu := hb u rfl
    have hu6 := p4 n8 hu
    refine ⟨fun c => absurd (show nI u < 0 by rw [show nI u = -1 from c]; decide) (nI_pos (by omega)), fun _ => ?_⟩
    refine am_run hX 8 _ _ _ _ ?_
    conv => whnf
    refine ⟨vp_in_nI (by show y < 256; omega) (by decide), ?_⟩
    conv => whnf
    rw [nI_clamp (n := y) (by omega), ho]
    refine am_c1 (ct_wRf (d := d + 2) h110 n8 hu) ?_
    conv => whnf
    have hu8 := wN_le 8 u
    refine ⟨fun c => ?_, fun c => ?_⟩
    · have c0 : ¬ lsQ (some u) v = true := by
        show ¬ decide (wN 8 v < wN 8 u) = true
        rw [decide_eq_true_eq, hw]
        exact fun q => nI_ge q (by omega) c
      rw [if_neg c0] at hk
      refine am_run hX 2 _ _ _ _ ?_
      conv => whnf
      rw [nI_1]
      exact hk
    · refine hyes ?_
      show decide (wN 8 v < wN 8 u) = true
      rw [decide_eq_true_eq, hw]
      rcases Nat.lt_or_ge w (wN 8 u) with q | q
      · exact q
      · exact absurd (nI_le q (by omega)) c
end EXC
