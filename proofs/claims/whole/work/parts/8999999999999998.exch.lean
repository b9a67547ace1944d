/-! THE PAIR sum: exchange, the small cases -/
section EXC
variable {d : Nat} {M : mm_M} {a b : Nat} {A B : SU}
def sw2f (f : Nat → Int32) (u v : Int32) : Nat → Int32 := upd (upd f 0 u) 1 v
def exM (M : mm_M) (a b : Nat) : mm_M := mm_i (mm_i (mm_i (mm_i (mm_i M 84 (sw2f (M.1 84) (nI b) (nI a))) 88 (sw2f (M.1 88) (nI b) (nI a))) 92 (sw2f (M.1 92) (nI b) (nI a))) 96 (sw2f (M.1 96) (M.1 96 1) (M.1 96 0))) 97 (sw2f (M.1 97) (M.1 97 1) (M.1 97 0))
set_option maxRecDepth 100000 in
theorem ct_exC (hr : sm_r M a b) : am_M (d + 1) false nm_X9_exchange [aR 83] M (am_q0 (exM M a b)) := by
  obtain ⟨hab, ⟨a1, a2, a3⟩, ⟨b1, b2, b3⟩, ⟨c1, c2, c3⟩⟩ := hr
  have h0 : vp_in 0 3 := vp_in_nI (n := 0) (N := 3) (by decide) (by decide)
  have i1 : vp_in 1 3 := vp_in_nI (n := 1) (N := 3) (by decide) (by decide)
  rcases hab with ⟨rfl, rfl⟩ | ⟨rfl, rfl⟩
  all_goals (
    refine ⟨rfl, rfl, rfl, fun X hX => am_run hX 120 _ _ _ _ ?_⟩
    conv => whnf
    rw [show M.1 84 (Int32.toNatClampNeg 0) = nI _ from a1]
    refine ⟨⟨h0, by decide⟩, ?_⟩
    conv => whnf
    rw [show M.1 84 (Int32.toNatClampNeg 1) = nI _ from a2]
    refine ⟨⟨i1, by decide⟩, ?_⟩
    conv => whnf
    refine ⟨h0, ?_⟩
    conv => whnf
    refine ⟨i1, ?_⟩
    conv => whnf
    rw [mi_two, show ∀ f, (mm_i M 84 f).1 88 (Int32.toNatClampNeg 0) = nI _ from fun _ => b1]
    refine ⟨⟨h0, by decide⟩, ?_⟩
    conv => whnf
    rw [show ∀ f, (mm_i M 84 f).1 88 (Int32.toNatClampNeg 1) = nI _ from fun _ => b2]
    refine ⟨⟨i1, by decide⟩, ?_⟩
    conv => whnf
    refine ⟨h0, ?_⟩
    conv => whnf
    refine ⟨i1, ?_⟩
    conv => whnf
    rw [mi_two, show ∀ f g, (mm_i (mm_i M 84 f) 88 g).1 92 (Int32.toNatClampNeg 0) = nI _ from fun _ _ => c1]
    refine ⟨⟨h0, by decide⟩, ?_⟩
    conv => whnf
    rw [show ∀ f g, (mm_i (mm_i M 84 f) 88 g).1 92 (Int32.toNatClampNeg 1) = nI _ from fun _ _ => c2]
    refine ⟨⟨i1, by decide⟩, ?_⟩
    conv => whnf
    refine ⟨h0, ?_⟩
    conv => whnf
    refine ⟨i1, ?_⟩
    conv => whnf
    rw [mi_two]
    refine ⟨h0, ?_⟩
    conv => whnf
    refine ⟨i1, ?_⟩
    conv => whnf
    refine ⟨h0, ?_⟩
    conv => whnf
    refine ⟨i1, ?_⟩
    conv => whnf
    rw [mi_two]
    refine ⟨h0, ?_⟩
    conv => whnf
    refine ⟨i1, ?_⟩
    conv => whnf
    refine ⟨h0, ?_⟩
    conv => whnf
    refine ⟨i1, ?_⟩
    conv => whnf
    rw [mi_two]
    exact ⟨trivial, rfl, rfl⟩)
set_option maxRecDepth 100000 in
theorem sw_l {Pp : am_Q} {X : am_X} (hX : am_K d false nm_X12_swapSums Pp X) (hK : ∀ l2, X 117 [some (aR 108), some (aI (nI 150)), l2] [] (swM M 150)) : ∀ w i l2, i + w = 150 → X 2 [some (aR 108), some (aI (nI i)), l2] [] (swM M i) := by
  intro w
  induction w with
  | zero =>
    intro i l2 hi
    have hi : i = 150 := by omega
    subst hi
    refine am_run hX 3 _ _ _ _ ?_
    conv => whnf
    refine ⟨fun _ => ?_, fun c => absurd (by decide) c⟩
    exact hK _
  | succ w ih =>
    intro i l2 hi
    have hI : vp_in (nI i) 300 := vp_in_nI (by omega) (by decide)
    have hJ : vp_in (nI (150 + i)) 300 := vp_in_nI (by omega) (by decide)
    have e150 : (150 : Int32) + nI i = nI (150 + i) := by rw [show (150 : Int32) = nI 150 from rfl, nI_add]
    refine am_run hX 3 _ _ _ _ ?_
    conv => whnf
    refine ⟨fun c => absurd c (nI_ge (a := i) (b := 150) (by omega) (by decide)), fun _ => ?_⟩
    refine am_run hX 68 _ _ _ _ ?_
    conv => whnf
    refine ⟨hI, ?_⟩
    conv => whnf
    rw [e150]
    refine ⟨hJ, ?_⟩
    conv => whnf
    refine ⟨hI, ?_⟩
    conv => whnf
    rw [e150]
    refine ⟨hJ, ?_⟩
    conv => whnf
    rw [mi_two]
    refine ⟨hI, ?_⟩
    conv => whnf
    rw [e150]
    refine ⟨hJ, ?_⟩
    conv => whnf
    refine ⟨hI, ?_⟩
    conv => whnf
    rw [e150]
    refine ⟨hJ, ?_⟩
    conv => whnf
    rw [mi_two]
    refine ⟨hI, ?_⟩
    conv => whnf
    rw [e150]
    refine ⟨hJ, ?_⟩
    conv => whnf
    refine ⟨hI, ?_⟩
    conv => whnf
    rw [e150]
    refine ⟨hJ, ?_⟩
    conv => whnf
    rw [mi_two, nI_1, nI_clamp (n := i) (by omega), nI_clamp (n := 150 + i) (by omega)]
    have ih := ih (i + 1)
    rw [← swM_s (by omega)] at ih
    exact ih _ (by omega)
def swE (M : mm_M) : mm_M := mm_i (mm_i (swM M 150) 141 (sw2f (M.1 141) (M.1 141 1) (M.1 141 0))) 142 (sw2f (M.1 142) (M.1 142 1) (M.1 142 0))
set_option maxRecDepth 100000 in
theorem ct_swR : am_M (d + 1) false nm_X12_swapSums [aR 108] M (am_q0 (swE M)) := by
  have h0 : vp_in 0 2 := vp_in_nI (n := 0) (N := 2) (by decide) (by decide)
  have i1 : vp_in 1 2 := vp_in_nI (n := 1) (N := 2) (by decide) (by decide)
  refine ⟨rfl, rfl, rfl, fun X hX => am_run hX 2 _ _ _ _ ?_⟩
  conv => whnf
  have key := sw_l (M := M) hX (fun l2 => by
    refine am_run hX 60 _ _ _ _ ?_
    conv => whnf
    refine ⟨h0, ?_⟩
    conv => whnf
    refine ⟨i1, ?_⟩
    conv => whnf
    refine ⟨h0, ?_⟩
    conv => whnf
    refine ⟨i1, ?_⟩
    conv => whnf
    rw [mi_two]
    refine ⟨h0, ?_⟩
    conv => whnf
    refine ⟨i1, ?_⟩
    conv => whnf
    refine ⟨h0, ?_⟩
    conv => whnf
    refine ⟨i1, ?_⟩
    conv => whnf
    rw [mi_two]
    exact ⟨trivial, rfl, rfl⟩) 150 0 none (by omega)
  rw [swM_0] at key
  exact key
end EXC
