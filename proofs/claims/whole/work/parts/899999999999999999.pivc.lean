/-! DIAGRAMS: pivot at the class -/
section PVC
variable {d m inp a b i : Nat} {N : mm_M} {W : WB} {vA vB vC : Int64} {f : Int32} {l11 l12 : Option am_V}
set_option maxRecDepth 100000 in
theorem pc_1A {u : Nat} {Pp : am_Q} {X : am_X} (hX : am_K d false nm_X10_pivot Pp X) (hi : i < 64) (hx : u < 2) (hb : vA.toBitVec.getLsbD i = decide (u = 1)) (hK : X 171 [some (aR 39), some (aI (nI a)), some (aI (nI b)), some (aJ vA), none, some (aJ vB), none, some (aI f), some (aJ vC), none, some (aI (nI i)), some (aI (nI u)), l12] [] N) : X 153 [some (aR 39), some (aI (nI a)), some (aI (nI b)), some (aJ vA), none, some (aJ vB), none, some (aI f), some (aJ vC), none, some (aI (nI i)), l11, l12] [] N := by
  have key := lb_us (x := vA) (i := i) hi
  rw [hb] at key
  refine am_run hX 8 _ _ _ _ ?_
  conv => whnf
  obtain rfl | rfl : u = 0 ∨ u = 1 := by omega
  · refine ⟨fun _ => ?_, fun c => absurd (key.mpr (by decide)) c⟩
    refine am_run hX 2 _ _ _ _ ?_
    conv => whnf
    exact hK
  · refine ⟨fun c => absurd (key.mp c) (by decide), fun _ => ?_⟩
    refine am_run hX 3 _ _ _ _ ?_
    conv => whnf
    exact hK
set_option maxRecDepth 100000 in
theorem pc_1B {u w : Nat} {Pp : am_Q} {X : am_X} (hX : am_K d false nm_X10_pivot Pp X) (hi : i < 64) (hx : w < 2) (hb : vB.toBitVec.getLsbD i = decide (w = 1)) (hK : X 190 [some (aR 39), some (aI (nI a)), some (aI (nI b)), some (aJ vA), none, some (aJ vB), none, some (aI f), some (aJ vC), none, some (aI (nI i)), some (aI (nI u)), some (aI (nI w))] [] N) : X 171 [some (aR 39), some (aI (nI a)), some (aI (nI b)), some (aJ vA), none, some (aJ vB), none, some (aI f), some (aJ vC), none, some (aI (nI i)), some (aI (nI u)), l12] [] N := by
  have key := lb_us (x := vB) (i := i) hi
  rw [hb] at key
  refine am_run hX 8 _ _ _ _ ?_
  conv => whnf
  obtain rfl | rfl : w = 0 ∨ w = 1 := by omega
  · refine ⟨fun _ => ?_, fun c => absurd (key.mpr (by decide)) c⟩
    refine am_run hX 2 _ _ _ _ ?_
    conv => whnf
    exact hK
  · refine ⟨fun c => absurd (key.mp c) (by decide), fun _ => ?_⟩
    refine am_run hX 3 _ _ _ _ ?_
    conv => whnf
    exact hK
set_option maxRecDepth 100000 in
theorem pc_200 {pa pb : Nat} {Pp : am_Q} {X : am_X} (hX : am_K (d + 1) false nm_X10_pivot Pp X) (la : a < 60) (lb : b < 60) (hi : i < 60) (ha : N.1 42 a = nI pa) (hb : N.1 42 b = nI pb) (hK : X 243 [some (aR 39), some (aI (nI a)), some (aI (nI b)), some (aJ vA), none, some (aJ vB), none, some (aI f), some (aJ vC), none, some (aI (nI i)), some (aI (nI 0)), some (aI (nI 0))] [] (grM N i (0 + 0 + 0))) : X 190 [some (aR 39), some (aI (nI a)), some (aI (nI b)), some (aJ vA), none, some (aJ vB), none, some (aI f), some (aJ vC), none, some (aI (nI i)), some (aI (nI 0)), some (aI (nI 0))] [] N := by
  have hA : vp_in (nI a) 60 := vp_in_nI la (by decide)
  have hB : vp_in (nI b) 60 := vp_in_nI lb (by decide)
  refine am_run hX 4 _ _ _ _ ?_
  conv => whnf
  refine ⟨fun _ => ?_, fun c => absurd rfl c⟩
  refine am_run hX 3 _ _ _ _ ?_
  conv => whnf
  refine ⟨fun _ => ?_, fun c => absurd rfl c⟩
  refine am_run hX 4 _ _ _ _ ?_
  conv => whnf
  refine ⟨fun _ => ?_, fun c => absurd rfl c⟩
  refine am_run hX 3 _ _ _ _ ?_
  conv => whnf
  have e : ((0 : Int32) + (0 : Int32) + (0 : Int32)) = nI (0 + 0 + 0) := by
    rw [← nI_add, ← nI_add]
    rfl
  rw [e]
  refine am_c0 (ct_grC0 (d := d) (a := i) (k := 0 + 0 + 0) hi) ?_
  conv => whnf
  exact hK
set_option maxRecDepth 100000 in
theorem pc_210 {pa pb : Nat} {Pp : am_Q} {X : am_X} (hX : am_K (d + 1) false nm_X10_pivot Pp X) (la : a < 60) (lb : b < 60) (hi : i < 60) (ha : N.1 42 a = nI pa) (hb : N.1 42 b = nI pb) (hK : X 243 [some (aR 39), some (aI (nI a)), some (aI (nI b)), some (aJ vA), none, some (aJ vB), none, some (aI f), some (aJ vC), none, some (aI (nI i)), some (aI (nI 1)), some (aI (nI 0))] [] (grM N i (pb + 0 + 0))) : X 190 [some (aR 39), some (aI (nI a)), some (aI (nI b)), some (aJ vA), none, some (aJ vB), none, some (aI f), some (aJ vC), none, some (aI (nI i)), some (aI (nI 1)), some (aI (nI 0))] [] N := by
  have hA : vp_in (nI a) 60 := vp_in_nI la (by decide)
  have hB : vp_in (nI b) 60 := vp_in_nI lb (by decide)
  refine am_run hX 4 _ _ _ _ ?_
  conv => whnf
  refine ⟨fun c => absurd c (by decide), fun _ => ?_⟩
  refine am_run hX 7 _ _ _ _ ?_
  conv => whnf
  refine ⟨hB, ?_⟩
  conv => whnf
  rw [nI_clamp (n := b) (by omega), hb]
  refine ⟨fun _ => ?_, fun c => absurd rfl c⟩
  refine am_run hX 4 _ _ _ _ ?_
  conv => whnf
  refine ⟨fun c => absurd c (by decide), fun _ => ?_⟩
  refine am_run hX 2 _ _ _ _ ?_
  conv => whnf
  refine ⟨fun _ => ?_, fun c => absurd rfl c⟩
  refine am_run hX 3 _ _ _ _ ?_
  conv => whnf
  have e : (nI pb + (0 : Int32) + (0 : Int32)) = nI (pb + 0 + 0) := by
    rw [← nI_add, ← nI_add]
    rfl
  rw [e]
  refine am_c0 (ct_grC0 (d := d) (a := i) (k := pb + 0 + 0) hi) ?_
  conv => whnf
  exact hK
set_option maxRecDepth 100000 in
theorem pc_201 {pa pb : Nat} {Pp : am_Q} {X : am_X} (hX : am_K (d + 1) false nm_X10_pivot Pp X) (la : a < 60) (lb : b < 60) (hi : i < 60) (ha : N.1 42 a = nI pa) (hb : N.1 42 b = nI pb) (hK : X 243 [some (aR 39), some (aI (nI a)), some (aI (nI b)), some (aJ vA), none, some (aJ vB), none, some (aI f), some (aJ vC), none, some (aI (nI i)), some (aI (nI 0)), some (aI (nI 1))] [] (grM N i (0 + pa + 0))) : X 190 [some (aR 39), some (aI (nI a)), some (aI (nI b)), some (aJ vA), none, some (aJ vB), none, some (aI f), some (aJ vC), none, some (aI (nI i)), some (aI (nI 0)), some (aI (nI 1))] [] N := by
  have hA : vp_in (nI a) 60 := vp_in_nI la (by decide)
  have hB : vp_in (nI b) 60 := vp_in_nI lb (by decide)
  refine am_run hX 4 _ _ _ _ ?_
  conv => whnf
  refine ⟨fun _ => ?_, fun c => absurd rfl c⟩
  refine am_run hX 3 _ _ _ _ ?_
  conv => whnf
  refine ⟨fun c => absurd c (by decide), fun _ => ?_⟩
  refine am_run hX 8 _ _ _ _ ?_
  conv => whnf
  refine ⟨hA, ?_⟩
  conv => whnf
  rw [nI_clamp (n := a) (by omega), ha]
  refine ⟨fun _ => ?_, fun c => absurd rfl c⟩
  refine am_run hX 3 _ _ _ _ ?_
  conv => whnf
  have e : ((0 : Int32) + nI pa + (0 : Int32)) = nI (0 + pa + 0) := by
    rw [← nI_add, ← nI_add]
    rfl
  rw [e]
  refine am_c0 (ct_grC0 (d := d) (a := i) (k := 0 + pa + 0) hi) ?_
  conv => whnf
  exact hK
set_option maxRecDepth 100000 in
theorem pc_211 {pa pb : Nat} {Pp : am_Q} {X : am_X} (hX : am_K (d + 1) false nm_X10_pivot Pp X) (la : a < 60) (lb : b < 60) (hi : i < 60) (ha : N.1 42 a = nI pa) (hb : N.1 42 b = nI pb) (hK : X 243 [some (aR 39), some (aI (nI a)), some (aI (nI b)), some (aJ vA), none, some (aJ vB), none, some (aI f), some (aJ vC), none, some (aI (nI i)), some (aI (nI 1)), some (aI (nI 1))] [] (grM N i (pb + pa + 4))) : X 190 [some (aR 39), some (aI (nI a)), some (aI (nI b)), some (aJ vA), none, some (aJ vB), none, some (aI f), some (aJ vC), none, some (aI (nI i)), some (aI (nI 1)), some (aI (nI 1))] [] N := by
  have hA : vp_in (nI a) 60 := vp_in_nI la (by decide)
  have hB : vp_in (nI b) 60 := vp_in_nI lb (by decide)
  refine am_run hX 4 _ _ _ _ ?_
  conv => whnf
  refine ⟨fun c => absurd c (by decide), fun _ => ?_⟩
  refine am_run hX 7 _ _ _ _ ?_
  conv => whnf
  refine ⟨hB, ?_⟩
  conv => whnf
  rw [nI_clamp (n := b) (by omega), hb]
  refine ⟨fun c => absurd c (by decide), fun _ => ?_⟩
  refine am_run hX 8 _ _ _ _ ?_
  conv => whnf
  refine ⟨hA, ?_⟩
  conv => whnf
  rw [nI_clamp (n := a) (by omega), ha]
  refine ⟨fun c => absurd c (by decide), fun _ => ?_⟩
  refine am_run hX 2 _ _ _ _ ?_
  conv => whnf
  refine ⟨fun c => absurd c (by decide), fun _ => ?_⟩
  refine am_run hX 4 _ _ _ _ ?_
  conv => whnf
  have e : (nI pb + nI pa + (4 : Int32)) = nI (pb + pa + 4) := by
    rw [← nI_add, ← nI_add]
    rfl
  rw [e]
  refine am_c0 (ct_grC0 (d := d) (a := i) (k := pb + pa + 4) hi) ?_
  conv => whnf
  exact hK
end PVC
