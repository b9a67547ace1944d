/-! circuit: the reference lays a STATEMENT -/
/-- but the WIRES of deeper levels all stays -/
def mpF (lv : Nat) (M N : mm_M) : Prop := (∀ q, q ≠ 131 → N.1 q = M.1 q) ∧ N.2 = M.2 ∧ ∀ j, j < 4 * (lv + 1) → N.1 131 j = M.1 131 j
theorem mpF_r (lv : Nat) (M : mm_M) : mpF lv M M := ⟨fun _ _ => rfl, rfl, fun _ _ => rfl⟩
theorem mpF_t {lv : Nat} {M N K : mm_M} (h : mpF lv M N) (g : mpF lv N K) : mpF lv M K := ⟨fun q a => (g.1 q a).trans (h.1 q a), g.2.1.trans h.2.1, fun j a => (g.2.2 j a).trans (h.2.2 j a)⟩
theorem mpF_w {lv lv' : Nat} {M N : mm_M} (hl : lv ≤ lv') (h : mpF lv' M N) : mpF lv M N := ⟨h.1, h.2.1, fun j a => h.2.2 j (by omega)⟩
theorem trH_m {lv : Nat} {M N : mm_M} {tl k : Nat} {L : Tr} (h : mpF lv M N) (g : trH M tl k L) : trH N tl k L := trH_k (k := k + L.length) ⟨fun q _ b j _ => by rw [h.1 q (by omega)], fun j _ => by rw [h.1 127 (by decide)]⟩ (Nat.le_refl _) (Nat.le_refl _) g
/-- what can be laid -/
def lyB (M : mm_M) (n tl k : Nat) (Q : Nat → Nat × Tr) (Tw : Nat → Nat) (R : Nat → List bk_X) : Prop := (M.1 108 6 = nI n ∧ n < 20) ∧ (tl ≤ 400 ∧ k ≤ 133) ∧ ∀ l, l < 4 → Tw l ≠ 0 → roD M tl k Q Tw R l ∧ Tw l ≤ 4 ∧ ∀ x ∈ R l, rgX (Tw l) x
theorem lyB_m {lv : Nat} {M N : mm_M} {n tl k : Nat} {Q : Nat → Nat × Tr} {Tw : Nat → Nat} {R : Nat → List bk_X} (h : mpF lv M N) (g : lyB M n tl k Q Tw R) : lyB N n tl k Q Tw R := by
  obtain ⟨⟨g1, g2⟩, g3, g4⟩ := g
  refine ⟨⟨by rw [h.1 108 (by decide)]; exact g1, g2⟩, g3, fun l l4 lz => ?_⟩
  obtain ⟨r1, r2, r3⟩ := g4 l l4 lz
  exact ⟨⟨by rw [h.1 129 (by decide)]; exact r1.1, by rw [h.1 130 (by decide)]; exact r1.2.1, r1.2.2.1, trH_m h r1.2.2.2.1, r1.2.2.2.2⟩, r2, r3⟩
/-- the WIRES of a level -/
def lvF (M : mm_M) (lv wd : Nat) (f : Nat → Nat) : Prop := wd ≤ 8 ∧ (lv = 0 → ∀ w, f w = w) ∧ (lv ≠ 0 → wd ≤ 4 ∧ ∀ w, w < wd → M.1 131 (4 * lv + w) = nI (f w)) ∧ ∀ w, w < wd → f w < 8
theorem lvF_m {lv wd : Nat} {M N : mm_M} {f : Nat → Nat} (h : mpF lv M N) (g : lvF M lv wd f) : lvF N lv wd f := by
  obtain ⟨g1, g2, g3, g4⟩ := g
  refine ⟨g1, g2, fun z => ⟨(g3 z).1, fun w hw => ?_⟩, g4⟩
  have := (g3 z).1
  rw [h.2.2 _ (by omega)]
  exact (g3 z).2 w hw
/-- what laying comes to -/
def lyQ (M : mm_M) (n lv : Nat) (O Y : List bk_X) (r : am_R) (N : mm_M) : Prop := r = .inl none ∧ ∃ M', mpF lv M M' ∧ N = llM M' n (O ++ Y)
section CSI
variable {d : Nat} {M Z : mm_M}
set_option maxRecDepth 100000 in
theorem ct_mp {lv w v : Nat} (h0 : lv = 0 → v = w) (h1 : lv ≠ 0 → M.1 131 (4 * lv + w) = nI v) (hb : 4 * lv + w < 1640) : am_M (d + 1) false nm_X12_mapped [aR 108, aI (nI lv), aI (nI w)] M (am_q1 (aI (nI v)) M) := by
  refine ⟨rfl, rfl, rfl, fun X hX => am_run hX 2 _ _ _ _ ?_⟩
  conv => whnf
  by_cases z : lv = 0
  · refine ⟨fun y => absurd (by rw [z]; rfl) y, fun _ => ?_⟩
    refine am_run hX 3 _ _ _ _ ?_
    conv => whnf
    exact ⟨trivial, by rw [h0 z], rfl⟩
  · refine ⟨fun _ => ?_, fun y => absurd (nI_ne0 (n := lv) (by omega) (by omega)) y⟩
    refine am_run hX 8 _ _ _ _ ?_
    conv => whnf
    rw [show (4 : Int32) * nI lv + nI w = nI (4 * lv + w) from by rw [show (4 : Int32) = nI 4 from rfl, nI_mul, nI_add]]
    refine ⟨vp_in_nI (by show 4 * lv + w < 1640; omega) (by decide), ?_⟩
    rw [nI_clamp (n := 4 * lv + w) (by omega), h1 z]
    refine am_run hX 1 _ _ _ _ ?_
    conv => whnf
    exact ⟨trivial, rfl, rfl⟩
theorem lv_mp {lv wd w n : Nat} {f : Nat → Nat} {O : List bk_X} (h : lvF M lv wd f) (hw : w < wd) (hl : lv ≤ 400) : am_M (d + 1) false nm_X12_mapped [aR 108, aI (nI lv), aI (nI w)] (llM M n O) (am_q1 (aI (nI (f w))) (llM M n O)) := by
  obtain ⟨g1, g2, g3, g4⟩ := h
  refine ct_mp (fun z => g2 z w) (fun z => ?_) (by omega)
  rw [ll_r _ _ _ (by decide) (by decide)]
  exact (g3 z).2 w hw
theorem sh8 : ∀ w, w < 8 → (1 : Int32) <<< (nI w &&& 31) = nI (2 ^ w) := by decide
theorem tk_map {cs : List Nat} {f : Nat → Nat} {j : Nat} (h : j < cs.length) : mskL ((cs.take (j + 1)).map f) = mskL ((cs.take j).map f) ||| 2 ^ f (cs.getD j 0) := by
  rw [tk_gd h, List.map_append]
  exact msk_a _ _
set_option maxRecDepth 100000 in
theorem lo_c {P : am_Q} {X : am_X} {q lv fw h : Nat} {vi m1 m0 : Int32} {cs us : List Nat} {f : Nat → Nat} (hX : am_K (d + 1) false nm_X12_layOne P X) (q4 : q < 401) (fl : fw + us.length ≤ 400) (ul : cs.length ≤ us.length) (z1 : Z.1 121 q = nI fw) (z3 : Z.1 123 q = nI cs.length) (z7 : ∀ j, j < us.length → Z.1 127 (fw + j) = nI (us.getD j 0)) (hu : ∀ j, j < cs.length → us.getD j 0 = cs.getD j 0) (hm : ∀ w, w ∈ cs → am_M (d + 1) false nm_X12_mapped [aR 108, aI (nI lv), aI (nI w)] Z (am_q1 (aI (nI (f w))) Z)) (hf : ∀ w, w ∈ cs → f w < 8) (hK : X 50 [some (aR 108), some (aI (nI q)), some (aI (nI lv)), some (aI vi), some (aI (nI h)), some (aI m1), some (aI m0), some (aI (nI (h ||| mskL (cs.map f)))), some (aI (nI cs.length)), none, none, none] [] Z) : ∀ (m j : Nat), j + m = cs.length → X 7 [some (aR 108), some (aI (nI q)), some (aI (nI lv)), some (aI vi), some (aI (nI h)), some (aI m1), some (aI m0), some (aI (nI (h ||| mskL ((cs.take j).map f)))), some (aI (nI j)), none, none, none] [] Z := by
  have ix : vp_in (nI q) 401 := vp_in_nI q4 (by decide)
  have cl : (nI q).toNatClampNeg = q := nI_clamp (by omega)
  intro m
  induction m with
  | zero =>
    intro j hj
    obtain rfl : j = cs.length := by omega
    rw [List.take_length]
    refine am_run hX 5 _ _ _ _ ?_
    conv => whnf
    refine ⟨ix, ?_⟩
    rw [cl, z3]
    refine am_run hX 1 _ _ _ _ ?_
    conv => whnf
    exact ⟨fun _ => hK, fun y => absurd (nI_le (Nat.le_refl _) (by omega)) y⟩
  | succ m ih =>
    intro j hj
    have ih := ih (j + 1) (by omega)
    have jl : j < cs.length := by omega
    have mem := gdd_m jl
    rw [tk_map jl, ← Nat.or_assoc] at ih
    refine am_run hX 5 _ _ _ _ ?_
    conv => whnf
    refine ⟨ix, ?_⟩
    rw [cl, z3]
    refine am_run hX 1 _ _ _ _ ?_
    conv => whnf
    refine ⟨fun y => absurd y (nI_ge (by omega) (by omega)), fun _ => ?_⟩
    refine am_run hX 10 _ _ _ _ ?_
    conv => whnf
    refine ⟨ix, ?_⟩
    rw [cl, z1]
    refine am_run hX 3 _ _ _ _ ?_
    conv => whnf
    rw [nI_add]
    refine ⟨vp_in_nI (by show fw + j < 401; omega) (by decide), ?_⟩
    rw [nI_clamp (n := fw + j) (by omega), z7 j (by omega), hu j jl]
    refine am_run hX 1 _ _ _ _ ?_
    conv => whnf
    refine am_c1 (hm _ mem) ?_
    refine am_run hX 3 _ _ _ _ ?_
    conv => whnf
    rw [sh8 _ (hf _ mem), nI_or]
    refine am_run hX 2 _ _ _ _ ?_
    conv => whnf
    rw [nI_1]
    exact ih
set_option maxRecDepth 100000 in
/-- up to the kind of a STATEMENT -/
theorem lo_p {P : am_Q} {X : am_X} {q lv wd h n tl s : Nat} {inv : Bool} {m1 m0 : Int32} {e : Ev} {f : Nat → Nat} {O : List bk_X} (hX : am_K (d + 1) false nm_X12_layOne P X) (q4 : q < 401) (t4 : tl ≤ 400) (hl : lv ≤ 400) (hv : lvF M lv wd f) (hn : ndH M tl q e s) (hc : ∀ w, w ∈ e.2.2.2.2.1 → w < wd) (hK : ∀ fw, M.1 121 q = nI fw → fw + (evW e).length ≤ tl → (∀ j, j < (evW e).length → M.1 127 (fw + j) = nI ((evW e).getD j 0)) → X 88 [some (aR 108), some (aI (nI q)), some (aI (nI lv)), some (aI (b01 inv)), some (aI (nI h)), some (aI m1), some (aI m0), some (aI (nI (h ||| mpM f (mskL e.2.2.2.2.1)))), some (aI (nI (fw + e.2.2.2.2.1.length))), some (aI (b01 (inv != e.2.2.2.1))), none, none] [aI (nI (wtE e))] (llM M n O)) : X 0 [some (aR 108), some (aI (nI q)), some (aI (nI lv)), some (aI (b01 inv)), some (aI (nI h)), some (aI m1), some (aI m0), none, none, none, none, none] [] (llM M n O) := by
  have ix : vp_in (nI q) 401 := vp_in_nI q4 (by decide)
  have cl : (nI q).toNatClampNeg = q := nI_clamp (by omega)
  obtain ⟨n0, ⟨fw, f1, f2, f3⟩, n2, n3, n4, n5, n6⟩ := hn
  have hK := hK fw f2 f1 f3
  have le : (evW e).length = e.2.2.2.2.1.length + e.2.2.2.2.2.length := List.length_append
  have z : ∀ k, k ≠ 108 → ¬ (112 ≤ k ∧ k ≤ 117) → (llM M n O).1 k = M.1 k := fun k a b => ll_r _ _ _ a b
  refine am_run hX 4 _ _ _ _ ?_
  conv => whnf
  have key := lo_c (d := d) (Z := llM M n O) (fw := fw) (h := h) (vi := b01 inv) (m1 := m1) (m0 := m0) (cs := e.2.2.2.2.1) (us := evW e) (f := f) (lv := lv) hX q4 (by omega) (by omega) (by rw [z 121 (by decide) (by decide)]; exact f2) (by rw [z 123 (by decide) (by decide)]; exact n3) (fun j hj => by rw [z 127 (by decide) (by decide)]; exact f3 j hj) (fun j hj => by
    unfold evW
    rw [List.getD_eq_getElem?_getD, List.getElem?_append_left hj, ← List.getD_eq_getElem?_getD]) (fun w hw => lv_mp hv (hc w hw) hl) (fun w hw => hv.2.2.2 w (hc w hw)) ?_ e.2.2.2.2.1.length 0 (by omega)
  · rw [show mskL ((e.2.2.2.2.1.take 0).map f) = 0 from rfl, Nat.or_zero] at key
    exact key
  have e7 : mskL (e.2.2.2.2.1.map f) = mpM f (mskL e.2.2.2.2.1) := (mpM_k (fun w hw => by have := hc w hw; have := hv.1; omega)).symm
  rw [e7]
  refine am_run hX 4 _ _ _ _ ?_
  conv => whnf
  refine ⟨ix, ?_⟩
  rw [cl, z 121 (by decide) (by decide), f2]
  refine am_run hX 4 _ _ _ _ ?_
  conv => whnf
  refine ⟨ix, ?_⟩
  rw [cl, z 123 (by decide) (by decide), n3]
  refine am_run hX 2 _ _ _ _ ?_
  conv => whnf
  rw [nI_add]
  refine am_run hX 5 _ _ _ _ ?_
  conv => whnf
  refine ⟨ix, ?_⟩
  rw [cl, z 124 (by decide) (by decide), n4]
  have fin : ∀ v9 : Int32, v9 = b01 (inv != e.2.2.2.1) → X 80 [some (aR 108), some (aI (nI q)), some (aI (nI lv)), some (aI (b01 inv)), some (aI (nI h)), some (aI m1), some (aI m0), some (aI (nI (h ||| mpM f (mskL e.2.2.2.2.1)))), some (aI (nI (fw + e.2.2.2.2.1.length))), none, none, none] [aI v9] (llM M n O) := by
    intro v9 h9
    rw [h9]
    refine am_run hX 1 _ _ _ _ ?_
    conv => whnf
    refine am_run hX 4 _ _ _ _ ?_
    conv => whnf
    refine ⟨ix, ?_⟩
    rw [cl, z 120 (by decide) (by decide), n0]
    exact hK
  refine am_run hX 1 _ _ _ _ ?_
  conv => whnf
  by_cases eb : inv = e.2.2.2.1
  · refine ⟨fun _ => ?_, fun y => absurd (by rw [eb]) y⟩
    refine am_run hX 1 _ _ _ _ ?_
    conv => whnf
    refine fin 0 ?_
    rw [eb, bne_self_eq_false]
    rfl
  · refine ⟨fun y => absurd y ?_, fun _ => ?_⟩
    · revert eb
      generalize e.2.2.2.1 = b
      intro eb
      cases inv <;> cases b
      · exact absurd rfl eb
      · decide
      · decide
      · exact absurd rfl eb
    · refine am_run hX 2 _ _ _ _ ?_
      conv => whnf
      refine fin 1 ?_
      rw [bne_iff_ne.mpr eb]
      rfl
end CSI
