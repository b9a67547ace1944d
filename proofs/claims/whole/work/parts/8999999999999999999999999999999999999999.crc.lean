/-! circuit: the class lays OPS out -/
/-- OPS as the Reader has them: 301 stands for any number above 300 -/
def opC (M : mm_M) (O : List bk_X) : Prop := M.1 2 12 = nI (min O.length 301) ∧ (O.length ≤ 300 → ∀ j, j < O.length → M.1 3 j = nI (bk_p (zg O j)))
/-- but the Reader's OPS stay -/
def apF (M N : mm_M) : Prop := (∀ k, k ≠ 2 → k ≠ 3 → N.1 k = M.1 k) ∧ (∀ y, y ≠ 12 → N.1 2 y = M.1 2 y) ∧ N.2 = M.2
theorem apF_r (M : mm_M) : apF M M := ⟨fun _ _ _ => rfl, fun _ _ => rfl, rfl⟩
theorem apF_t {M N K : mm_M} (h : apF M N) (g : apF N K) : apF M K := ⟨fun k a b => (g.1 k a b).trans (h.1 k a b), fun y a => (g.2.1 y a).trans (h.2.1 y a), g.2.2.trans h.2.2⟩
/-- so often -/
def rpt (L : List bk_X) : Nat → List bk_X
  | 0 => []
  | m + 1 => L ++ rpt L m
theorem rpt_n (L : List bk_X) : ∀ m, (rpt L m).length = L.length * m
  | 0 => rfl
  | m + 1 => by
    show (L ++ rpt L m).length = _
    rw [List.length_append, rpt_n L m, Nat.mul_succ, Nat.add_comm]
theorem rpt_e (L : List bk_X) : ∀ m, rpt L (m + 1) = rpt L m ++ L
  | 0 => by
    show L ++ [] = [] ++ L
    rw [List.append_nil]
    rfl
  | m + 1 => by
    show L ++ rpt L (m + 1) = L ++ rpt L m ++ L
    rw [rpt_e L m, List.append_assoc]
theorem zg_b {l k : List bk_X} {j : Nat} (h : l.length ≤ j) : zg (l ++ k) j = zg k (j - l.length) := by
  unfold zg
  rw [List.getD_eq_getElem?_getD, List.getElem?_append_right h, ← List.getD_eq_getElem?_getD]
/-- what stands once more -/
theorem rpt_z {A D : List bk_X} {m j : Nat} (h1 : A.length + D.length ≤ j) (h2 : j < A.length + D.length * (m + 1)) : zg (A ++ rpt D (m + 1)) j = zg (A ++ rpt D (m + 1)) (j - D.length) := by
  have e : D.length * (m + 1) = D.length * m + D.length := Nat.mul_succ _ _
  rw [zg_b (by omega), zg_b (by omega)]
  show zg (D ++ rpt D m) (j - A.length) = _
  rw [zg_b (by omega), rpt_e, zg_a (by rw [rpt_n]; omega)]
  congr 1
  omega
section CRD
variable {d : Nat} {M : mm_M} {O : List bk_X}
set_option maxRecDepth 100000 in
theorem ct_app1 {f : Nat} {v : Int32} (hf : f < 2 ^ 20) (h19 : M.1 2 19 = nI f) (f0 : f ≠ 0) : am_M (d + 1) false nm_X5_append [aR 2, aI v] M (am_q0 M) := by
  refine ⟨rfl, rfl, rfl, fun X hX => am_run hX 3 _ _ _ _ ?_⟩
  conv => whnf
  rw [h19]
  refine ⟨fun _ => ?_, fun z => absurd (nI_ne0 (n := f) (by omega) (by omega)) z⟩
  refine am_run hX 1 _ _ _ _ ?_
  conv => whnf
  exact ⟨trivial, rfl, rfl⟩
set_option maxRecDepth 100000 in
theorem ct_app0 {v a : Int32} {x : bk_X} (h19 : M.1 2 19 = 0) (h14 : M.1 2 14 = a) (hv : v ||| a <<< ((18 : Int32) &&& 31) = nI (bk_p x)) (hO : opC M O) : am_M (d + 1) false nm_X5_append [aR 2, aI v] M (fun r N => r = .inl none ∧ apF M N ∧ opC N (O ++ [x])) := by
  have len : (O ++ [x]).length = O.length + 1 := by rw [List.length_append]; rfl
  refine ⟨rfl, rfl, rfl, fun X hX => am_run hX 3 _ _ _ _ ?_⟩
  conv => whnf
  rw [h19]
  refine ⟨fun z => absurd rfl z, fun _ => ?_⟩
  refine am_run hX 4 _ _ _ _ ?_
  conv => whnf
  rw [hO.1]
  by_cases big : 300 < O.length
  · refine ⟨fun z => absurd z (nI_ge (a := 300) (b := min O.length 301) (by omega) (by omega)), fun _ => ?_⟩
    refine am_run hX 1 _ _ _ _ ?_
    conv => whnf
    refine ⟨trivial, rfl, apF_r M, ?_, fun z => absurd z (by omega)⟩
    rw [hO.1, len]
    congr 1
    omega
  · refine ⟨fun _ => ?_, fun z => absurd (nI_le (a := min O.length 301) (b := 300) (by omega) (by decide)) z⟩
    have em : min O.length 301 = O.length := by omega
    have h12 : M.1 2 12 = nI O.length := by rw [hO.1, em]
    refine am_run hX 4 _ _ _ _ ?_
    conv => whnf
    rw [h12]
    have fin : ∀ N, (∀ k, k ≠ 3 → N.1 k = M.1 k) → N.2 = M.2 → (O.length < 300 → ∀ j, j < O.length + 1 → N.1 3 j = nI (bk_p (zg (O ++ [x]) j))) → X 46 [some (aR 2), some (aI v)] [] N := by
      intro N e1 e2 e3
      refine am_run hX 6 _ _ _ _ ?_
      conv => whnf
      rw [e1 2 (by decide), h12, nI_1]
      generalize hN1 : mm_i N 2 _ = N1
      have a1 : ∀ k, k ≠ 2 → N1.1 k = N.1 k := fun k hk => by rw [← hN1, mm_ne _ _ _ _ hk]
      have a2 : N1.1 2 = upd (M.1 2) 12 (nI (O.length + 1)) := by rw [← hN1, mm_i1]
      have a3 : N1.2 = N.2 := by rw [← hN1]; rfl
      refine am_run hX 1 _ _ _ _ ?_
      conv => whnf
      refine ⟨trivial, rfl, ⟨fun k a b => by rw [a1 k a, e1 k b], fun y hy => by rw [a2, up_ne hy], by rw [a3, e2]⟩, ?_, fun hl j hj => ?_⟩
      · rw [a2, up_at, len]
        congr 1
        omega
      · rw [len] at hl hj
        rw [a1 3 (by decide)]
        exact e3 (by omega) j hj
    by_cases lt : O.length < 300
    · refine ⟨fun z => absurd z (nI_ge (a := O.length) (b := 300) lt (by decide)), fun _ => ?_⟩
      refine am_run hX 11 _ _ _ _ ?_
      conv => whnf
      rw [h12, h14]
      refine ⟨vp_in_nI (by show O.length < 300; omega) (by decide), ?_⟩
      rw [nI_clamp (n := O.length) (by omega), hv]
      generalize hN1 : mm_i M 3 _ = N1
      have a1 : ∀ k, k ≠ 3 → N1.1 k = M.1 k := fun k hk => by rw [← hN1, mm_ne _ _ _ _ hk]
      have a2 : N1.1 3 = upd (M.1 3) O.length (nI (bk_p x)) := by rw [← hN1, mm_i1]
      refine fin N1 a1 (by rw [← hN1]; rfl) (fun _ j hj => ?_)
      rw [a2]
      by_cases e : j = O.length
      · rw [e, up_at, zg_r]
      · rw [up_ne e, zg_l (by omega)]
        exact hO.2 (by omega) j (by omega)
    · have e : O.length = 300 := by omega
      refine ⟨fun _ => fin M (fun _ _ => rfl) rfl (fun z => absurd z (by omega)), fun z => absurd (nI_le (a := 300) (b := O.length) (by omega) (by omega)) z⟩
set_option maxRecDepth 100000 in
theorem rpt_l {P : am_Q} {X : am_X} {A D : List bk_X} {m : Nat} (hX : am_K d false nm_X5_repeat P X) (hl : A.length + D.length * (m + 1) ≤ 300) (hP : ∀ N, apF M N → opC N (A ++ rpt D (m + 1)) → P (.inl none) N) : ∀ (q i : Nat) (N : mm_M), i + q = A.length + D.length * (m + 1) → A.length + D.length ≤ i → apF M N → (∀ j, j < i → N.1 3 j = nI (bk_p (zg (A ++ rpt D (m + 1)) j))) → X 42 [some (aR 2), some (aI (nI A.length)), some (aI (nI (m + 1))), some (aI (nI D.length)), some (aI (nI i))] [] N := by
  have em : nI A.length + nI D.length * nI (m + 1) = nI (A.length + D.length * (m + 1)) := by rw [nI_mul, nI_add]
  have len : (A ++ rpt D (m + 1)).length = A.length + D.length * (m + 1) := by rw [List.length_append, rpt_n]
  intro q
  induction q with
  | zero =>
    intro i N hi h1 hF hA
    refine am_run hX 7 _ _ _ _ ?_
    conv => whnf
    rw [em, ← hi, Nat.add_zero]
    refine ⟨fun _ => ?_, fun z => absurd (nI_le (Nat.le_refl _) (by omega)) z⟩
    refine am_run hX 8 _ _ _ _ ?_
    conv => whnf
    rw [em]
    refine ⟨trivial, hP _ (apF_t hF ⟨fun k a _ => mm_ne _ _ _ _ a, fun y hy => by rw [mm_i1, up_ne hy], rfl⟩) ⟨?_, fun _ j hj => ?_⟩⟩
    · rw [mm_i1, up_at, len]
      congr 1
      omega
    · rw [len] at hj
      rw [mm_ne _ _ _ _ (by decide)]
      exact hA j (by omega)
  | succ q ih =>
    intro i N hi h1 hF hA
    have i3 : i < 300 := by omega
    refine am_run hX 7 _ _ _ _ ?_
    conv => whnf
    rw [em]
    refine ⟨fun z => absurd z (nI_ge (by omega) (by omega)), fun _ => ?_⟩
    refine am_run hX 10 _ _ _ _ ?_
    conv => whnf
    rw [nI_sub (by omega)]
    refine ⟨vp_in_nI (by show _ < 300; omega) (by decide), ?_⟩
    conv => whnf
    refine ⟨vp_in_nI (by show i < 300; omega) (by decide), ?_⟩
    rw [nI_clamp (n := i) (by omega), nI_clamp (n := i - D.length) (by omega)]
    generalize hN1 : mm_i N 3 _ = N1
    have a1 : ∀ k, k ≠ 3 → N1.1 k = N.1 k := fun k hk => by rw [← hN1, mm_ne _ _ _ _ hk]
    have a2 : N1.1 3 = upd (N.1 3) i (N.1 3 (i - D.length)) := by rw [← hN1, mm_i1]
    refine am_run hX 2 _ _ _ _ ?_
    conv => whnf
    rw [nI_1]
    refine ih (i + 1) N1 (by omega) (by omega) (apF_t hF ⟨fun k _ b => a1 k b, fun y _ => by rw [a1 2 (by decide)], by rw [← hN1]; rfl⟩) (fun j hj => ?_)
    rw [a2]
    by_cases e : j = i
    · have d0 : 0 < D.length := by
        cases hD : D.length with
        | zero => rw [hD, Nat.zero_mul] at hi; omega
        | succ n => exact Nat.succ_pos _
      rw [e, up_at, rpt_z h1 (by omega)]
      exact hA (i - D.length) (by omega)
    · rw [up_ne e]
      exact hA j (by omega)
set_option maxRecDepth 100000 in
theorem ct_rep {fr m : Nat} (hm : m < 15) (hf : fr ≤ O.length) (hO : opC M O) : am_M (d + 1) false nm_X5_repeat [aR 2, aI (nI (min fr 301)), aI (nI (m + 1))] M (fun r N => r = .inl none ∧ apF M N ∧ opC N (O.take fr ++ rpt (O.drop fr) (m + 1))) := by
  have lA : (O.take fr).length = fr := by rw [List.length_take]; omega
  have lD : (O.drop fr).length = O.length - fr := List.length_drop
  have len : (O.take fr ++ rpt (O.drop fr) (m + 1)).length = fr + (O.length - fr) * (m + 1) := by rw [List.length_append, rpt_n, lA, lD]
  have ge : O.length - fr ≤ (O.length - fr) * (m + 1) := Nat.le_mul_of_pos_right _ (Nat.succ_pos _)
  have bigq : 300 < fr + (O.length - fr) * (m + 1) → ∀ N, N.1 2 12 = nI 301 → opC N (O.take fr ++ rpt (O.drop fr) (m + 1)) := by
    intro h N hN
    refine ⟨?_, fun z => absurd z (by rw [len]; omega)⟩
    rw [hN, len]
    congr 1
    omega
  refine ⟨rfl, rfl, rfl, fun X hX => am_run hX 5 _ _ _ _ ?_⟩
  conv => whnf
  rw [hO.1]
  have stop : 300 < fr + (O.length - fr) * (m + 1) → ∀ v3, X 28 [some (aR 2), some (aI (nI (min fr 301))), some (aI (nI (m + 1))), some (aI v3), none] [] M := by
    intro h v3
    refine am_run hX 4 _ _ _ _ ?_
    conv => whnf
    refine ⟨trivial, rfl, ⟨fun k a _ => mm_ne _ _ _ _ a, fun y hy => by rw [mm_i1, up_ne hy], rfl⟩, bigq h _ ?_⟩
    rw [mm_i1]
    exact up_at
  refine am_run hX 4 _ _ _ _ ?_
  conv => whnf
  rw [hO.1]
  by_cases big : 300 < O.length
  · refine ⟨fun _ => stop (by omega) _, fun z => absurd (nI_lt (a := 300) (b := min O.length 301) (by omega) (by omega)) z⟩
  · have em : min O.length 301 = O.length := by omega
    have ef : min fr 301 = fr := by omega
    have h12 : M.1 2 12 = nI O.length := by rw [hO.1, em]
    rw [em, ef, nI_sub hf] at *
    refine ⟨fun z => absurd z (nI_nlt (a := 300) (b := O.length) (by omega) (by decide)), fun _ => ?_⟩
    have et : nI fr + nI (O.length - fr) * nI (m + 1) = nI (fr + (O.length - fr) * (m + 1)) := by rw [nI_mul, nI_add]
    have bnd : (O.length - fr) * (m + 1) ≤ 300 * 15 := Nat.mul_le_mul (by omega) (by omega)
    refine am_run hX 7 _ _ _ _ ?_
    conv => whnf
    rw [et]
    by_cases more : 300 < fr + (O.length - fr) * (m + 1)
    · have stop' := stop more (nI (O.length - fr))
      rw [show min fr 301 = fr by omega] at stop'
      exact ⟨fun z => absurd z (nI_ge (a := 300) (by omega) (by omega)), fun _ => stop'⟩
    · refine ⟨fun _ => ?_, fun z => absurd (nI_le (b := 300) (by omega) (by decide)) z⟩
      refine am_run hX 3 _ _ _ _ ?_
      conv => whnf
      rw [h12]
      have key := rpt_l (M := M) (A := O.take fr) (D := O.drop fr) (m := m) hX (by rw [lA, lD]; omega) (fun N a b => ⟨rfl, a, b⟩) (fr + (O.length - fr) * (m + 1) - O.length) O.length M (by rw [lA, lD]; omega) (by rw [lA, lD]; omega) (apF_r M) (fun j hj => ?_)
      · rw [lA, lD] at key
        exact key
      · rw [hO.2 (by omega) j hj]
        have : O = O.take fr ++ O.drop fr := (List.take_append_drop fr O).symm
        have e2 : O.take fr ++ rpt (O.drop fr) (m + 1) = O ++ rpt (O.drop fr) m := by
          show O.take fr ++ (O.drop fr ++ rpt (O.drop fr) m) = _
          rw [← List.append_assoc, List.take_append_drop]
        rw [e2, zg_a hj]
end CRD
