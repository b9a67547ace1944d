/-! THE REFERENCE'S bring, whole -/
section BRW
variable {d n : Nat} {M : mm_M}
set_option maxRecDepth 100000 in
theorem ct_bring {x s h o : Nat} {κ : Nat → Nat} {R I q t : Nat → Int32} {f g : Nat → Int64} {kk : Nat → Nat} {sg : Int32} {ov : Nat} (hx : x < 2) (hs : s ≤ 150) (ho : o = 150 * x) (h41 : M.1 141 x = nI s) (h42 : M.1 142 x = nI h) (hh : h ≤ ov) (hov : ov - h < 64) (hκ : ∀ j, j < s → κ j < 65536 ∧ M.1 143 (o + j) = nI (κ j) ∧ M.1 144 (o + j) = R j ∧ M.1 145 (o + j) = I j) (hn : n + s ≤ 22501) (hw : wkO n q t f g kk) : am_M (d + 2) false nm_X12_bring [aR 108, aI (nI x), aI sg, aI (nI ov)] (wF M n q t f g) (fun r M' => r = .inl none ∧ ∃ n' q t kk, n' ≤ n + s ∧ wkO n' q t (brF κ (sg.toInt64 <<< ((nI (ov - h)).toInt64 &&& 63)) R f s) (brF κ (sg.toInt64 <<< ((nI (ov - h)).toInt64 &&& 63)) I g s) kk ∧ M' = wF M n' q t (brF κ (sg.toInt64 <<< ((nI (ov - h)).toInt64 &&& 63)) R f s) (brF κ (sg.toInt64 <<< ((nI (ov - h)).toInt64 &&& 63)) I g s)) := by
  have hin : vp_in (nI x) 2 := vp_in_nI hx (by decide)
  refine ⟨rfl, rfl, rfl, fun X hX => ?_⟩
  have key := br_l (d := d) (M := M) (n := n) (x := x) (s := s) (o := o) (κ := κ) (R := R) (I := I) (f := f) (g := g) (sg := sg) (ov := nI ov) (c := sg.toInt64 <<< ((nI (ov - h)).toInt64 &&& 63)) hX hx hs ho h41 hκ hn (fun n' q t kk h1 h2 => ⟨rfl, n', q, t, kk, h1, h2, rfl⟩) s 0 n q t kk (by omega) (by omega) hw
  refine am_run hX 14 _ _ _ _ ?_
  conv => whnf
  refine ⟨hin, ?_⟩
  conv => whnf
  rw [nI_clamp (n := x) (by omega), show (wF M n q t f g).1 142 x = nI h from h42, nI_sub hh, show (150 : Int32) * nI x = nI o from by rw [show (150 : Int32) = nI 150 from rfl, nI_mul, ho]]
  exact key
end BRW
