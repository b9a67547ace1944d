/-! small pairs -/
/-- nothing was thrown -/
def th0 (M : mm_M) : mm_M := mm_i M 108 (upd (M.1 108) 0 0)
section SMP
variable {ac : Nat → ClassId} {lo : Nat} {ad as : Nat → Nat} {b L : Nat} {xs : Nat → Int32} {hp : mm_M → Nat → xm_H} {I J : mm_M → Prop}
set_option maxRecDepth 100000 in
theorem pr_fault (H : mm_L ac lo hp) (h1 : ∀ M, I M → M.1 0 15 = M.1 108 4 ∧ M.1 0 16 = M.1 108 5) (hJ : ∀ M, I M → J (th0 M)) (p : Int32) : la_I ac lo ad as b L xs hp I J nm_X11_fault nm_X12_fault [.int p] := by
  refine am_la_I (us := [aI p]) H fun M hI => ?_
  have h1 := h1 M hI
  have hJ := hJ M hI
  refine ⟨rfl, rfl, rfl, fun X hX => am_run hX 100 _ _ _ _ ?_⟩
  repeat' (conv => whnf
           first
           | contradiction
           | refine ⟨fun c => ?_, fun c => ?_⟩
           | refine ⟨trivial, _, rfl, rfl, rfl, rfl, fun X hX => am_run hX 100 _ _ _ _ ?_⟩
           | exact ⟨trivial, rfl, hJ⟩
           | exact ⟨trivial, by rw [h1.1]; rfl, hJ⟩
           | exact ⟨trivial, by rw [h1.2]; rfl, hJ⟩)
set_option maxRecDepth 100000 in
theorem pr_same (H : mm_L ac lo hp) (h1 : ∀ M, I M → M.1 0 17 = M.1 108 85) (hJ : ∀ M, I M → J (th0 M)) : la_I ac lo ad as b L xs hp I J nm_X11_same nm_X12_same [] := by
  refine am_la_I (us := []) H fun M hI => ?_
  have h1 := h1 M hI
  have hJ := hJ M hI
  refine ⟨rfl, rfl, rfl, fun X hX => am_run hX 100 _ _ _ _ ?_⟩
  conv => whnf
  refine ⟨trivial, _, rfl, rfl, rfl, rfl, fun X hX => am_run hX 100 _ _ _ _ ?_⟩
  conv => whnf
  exact ⟨trivial, by rw [h1]; rfl, hJ⟩
set_option maxRecDepth 100000 in
theorem pr_played (H : mm_L ac lo hp) (h1 : ∀ M, I M → M.1 0 18 = M.1 108 147) (hJ : ∀ M, I M → J (th0 M)) : la_I ac lo ad as b L xs hp I J nm_X11_played nm_X12_played [] := by
  refine am_la_I (us := []) H fun M hI => ?_
  have h1 := h1 M hI
  have hJ := hJ M hI
  refine ⟨rfl, rfl, rfl, fun X hX => am_run hX 100 _ _ _ _ ?_⟩
  conv => whnf
  refine ⟨trivial, _, rfl, rfl, rfl, rfl, fun X hX => am_run hX 100 _ _ _ _ ?_⟩
  conv => whnf
  exact ⟨trivial, by rw [h1]; rfl, hJ⟩
set_option maxRecDepth 100000 in
theorem pr_tensor (H : mm_L ac lo hp) (hJ0 : ∀ M, I M → J (th0 M)) (hJ : ∀ M (i : Nat) (v : Int32), I M → i < 9 → ¬ v < 0 → ¬ 65535 < v → J (mm_i (th0 (mm_i M 71 (upd (M.1 71) i v))) 166 (upd (M.1 166) i v))) (p q : Int32) : la_I ac lo ad as b L xs hp I J nm_X11_tensor nm_X12_tensor [.int p, .int q] := by
  refine am_la_I (us := [aI p, aI q]) H fun M hI => ?_
  have hJ0 := hJ0 M hI
  refine ⟨rfl, rfl, rfl, fun X hX => am_run hX 100 _ _ _ _ ?_⟩
  repeat' (conv => whnf
           first
           | contradiction
           | refine ⟨fun c => ?_, fun c => ?_⟩
           | refine ⟨rfl, _, rfl, rfl, rfl, rfl, fun X hX => am_run hX 100 _ _ _ _ ?_⟩
           | exact ⟨rfl, rfl, hJ0⟩
           | refine ⟨pr_in (k := 8) (n := 9) (by assumption) (by assumption) ⟨rfl, by decide⟩, ?_⟩
           | exact ⟨rfl, rfl, hJ M _ _ hI (pr_lt (pr_in (k := 8) (n := 9) (by assumption) (by assumption) ⟨rfl, by decide⟩)) (by assumption) (Int32.not_lt.mpr (by assumption))⟩)
set_option maxRecDepth 100000 in
theorem pr_clear (H : mm_L ac lo hp) (hJ : ∀ M, I M → J (mm_i (mm_i (mm_i (mm_i M 9 (upd (M.1 9) 7 0)) 17 (upd (M.1 17) 5 (-1))) 39 (upd (M.1 39) 6 0)) 108 (upd (upd (upd (upd (M.1 108) 0 0) 6 0) 65 0) 98 0))) : la_V ac lo ad as b L xs hp I J nm_X11_clear nm_X12_clear [] := by
  refine am_la_V (us := []) H fun M hI => ?_
  have hJ := hJ M hI
  refine ⟨rfl, rfl, rfl, fun X hX => am_run hX 100 _ _ _ _ ?_⟩
  conv => whnf
  refine ⟨trivial, rfl, rfl, rfl, rfl, fun X hX => am_run hX 100 _ _ _ _ ?_⟩
  conv => whnf
  refine ⟨⟨rfl, rfl⟩, ?_⟩
  conv => whnf
  refine ⟨⟨rfl, rfl⟩, ?_⟩
  conv => whnf
  refine ⟨trivial, rfl, ?_⟩
  simp only [mm_i1, mm_ii]
  exact hJ
end SMP
