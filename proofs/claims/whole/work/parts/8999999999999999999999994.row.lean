/-! row -/
/-- the TABLE: rows A at the class, B at the reference, the same when made straight -/
def tb_g (M : mm_M) (n : Nat) (A B : Nat → RW) : Prop := n ≤ 20 ∧ M.1 25 3 = nI n ∧ M.1 108 81 = nI n ∧ (∀ j, j < n → rw_n n (A j) ∧ rw_n n (B j) ∧ rA M j (A j) ∧ rB M j (B j)) ∧ allc n A ∧ allc n B ∧ redR n A = redR n B ∧ (M.1 25 4 = 0 ∨ M.1 25 4 = 1 ∧ A = redR n A)
section ROW
variable {d n : Nat} {M : mm_M} {A B Y : Nat → RW}
theorem gA_self (h : ∀ j, j < n → rA M j (Y j)) : gA M Y n = M := by
  refine Prod.ext (funext fun k => funext fun j => ?_) rfl
  show (if k = 26 then (fun j => if j < n then nI (Y j).1 else M.1 26 j) else if k = 27 then (fun j => if j < n then nI (Y j).2.1 else M.1 27 j) else if k = 28 then (fun j => if j < n then nI (Y j).2.2 else M.1 28 j) else M.1 k) j = M.1 k j
  by_cases k1 : k = 26
  · rw [if_pos k1, k1]
    show (if j < n then nI (Y j).1 else M.1 26 j) = M.1 26 j
    by_cases l : j < n
    · rw [if_pos l, (h j l).1]
    · rw [if_neg l]
  · rw [if_neg k1]
    by_cases k2 : k = 27
    · rw [if_pos k2, k2]
      show (if j < n then nI (Y j).2.1 else M.1 27 j) = M.1 27 j
      by_cases l : j < n
      · rw [if_pos l, (h j l).2.1]
      · rw [if_neg l]
    · rw [if_neg k2]
      by_cases k3 : k = 28
      · rw [if_pos k3, k3]
        show (if j < n then nI (Y j).2.2 else M.1 28 j) = M.1 28 j
        by_cases l : j < n
        · rw [if_pos l, (h j l).2.2]
        · rw [if_neg l]
      · rw [if_neg k3]
theorem gB_self (h : ∀ j, j < n → rB M j (Y j)) : gB M Y n = M := by
  refine Prod.ext (funext fun k => funext fun j => ?_) rfl
  show (if k = 157 then (fun j => if j < n then nI (Y j).1 else M.1 157 j) else if k = 158 then (fun j => if j < n then nI (Y j).2.1 else M.1 158 j) else if k = 159 then (fun j => if j < n then nI (Y j).2.2 else M.1 159 j) else M.1 k) j = M.1 k j
  by_cases k1 : k = 157
  · rw [if_pos k1, k1]
    show (if j < n then nI (Y j).1 else M.1 157 j) = M.1 157 j
    by_cases l : j < n
    · rw [if_pos l, (h j l).1]
    · rw [if_neg l]
  · rw [if_neg k1]
    by_cases k2 : k = 158
    · rw [if_pos k2, k2]
      show (if j < n then nI (Y j).2.1 else M.1 158 j) = M.1 158 j
      by_cases l : j < n
      · rw [if_pos l, (h j l).2.1]
      · rw [if_neg l]
    · rw [if_neg k2]
      by_cases k3 : k = 159
      · rw [if_pos k3, k3]
        show (if j < n then nI (Y j).2.2 else M.1 159 j) = M.1 159 j
        by_cases l : j < n
        · rw [if_pos l, (h j l).2.2]
        · rw [if_neg l]
      · rw [if_neg k3]
theorem gA_row {j : Nat} (hj : j < n) : rA (gA M Y n) j (Y j) := ⟨if_pos hj, if_pos hj, if_pos hj⟩
theorem gB_row {j : Nat} (hj : j < n) : rB (gB M Y n) j (Y j) := ⟨if_pos hj, if_pos hj, if_pos hj⟩
/-- made straight, the class -/
def strM (M : mm_M) (n : Nat) (Y : Nat → RW) : mm_M := mm_i (gA M (redR n Y) n) 25 (upd (M.1 25) 4 1)
def roV (y : RW) (q : Int32) : Int32 := if q = 0 then nI y.1 else if q = 1 then nI y.2.1 else if q = 2 then nI y.2.2 else -1
theorem rd_n' (h : ∀ j, j < n → rw_n n (Y j)) {j : Nat} (hj : j < n) : rw_n n (redR n Y j) := rd_n h (2 * n) j hj
theorem rd_c' (h : allc n Y) : allc n (redR n Y) := rd_c h (2 * n)
set_option maxRecDepth 100000 in
theorem roX_r {p : Nat} {q : Int32} {y : RW} {Pp : am_Q} {X : am_X} (hX : am_K d false nm_X11_row Pp X) (hp : p < 20) (hy : rA M p y) (hP : Pp (.inl (some (aI (roV y q)))) M) : X 24 [some (aR 0), some (aI (nI p)), some (aI q)] [] M := by
  have hI : vp_in (nI p) 20 := vp_in_nI hp (by decide)
  refine am_run hX 2 _ _ _ _ ?_
  conv => whnf
  refine ⟨fun c0 => ?_, fun c0 => ?_⟩
  · refine am_run hX 6 _ _ _ _ ?_
    conv => whnf
    refine ⟨hI, ?_⟩
    conv => whnf
    rw [nI_clamp (n := p) (by omega), hy.1]
    have e : roV y q = nI y.1 := if_pos c0
    rw [e] at hP
    exact ⟨trivial, hP⟩
  refine ⟨fun c1 => ?_, fun c1 => ?_⟩
  · refine am_run hX 6 _ _ _ _ ?_
    conv => whnf
    refine ⟨hI, ?_⟩
    conv => whnf
    rw [nI_clamp (n := p) (by omega), hy.2.1]
    have e : roV y q = nI y.2.1 := by
      unfold roV
      rw [if_neg c0, if_pos c1]
    rw [e] at hP
    exact ⟨trivial, hP⟩
  refine ⟨fun c2 => ?_, fun c2 => ?_⟩
  · refine am_run hX 6 _ _ _ _ ?_
    conv => whnf
    refine ⟨hI, ?_⟩
    conv => whnf
    rw [nI_clamp (n := p) (by omega), hy.2.2]
    have e : roV y q = nI y.2.2 := by
      unfold roV
      rw [if_neg c0, if_neg c1, if_pos c2]
    rw [e] at hP
    exact ⟨trivial, hP⟩
  · refine am_run hX 2 _ _ _ _ ?_
    conv => whnf
    have e : roV y q = -1 := by
      unfold roV
      rw [if_neg c0, if_neg c1, if_neg c2]
    rw [e] at hP
    exact ⟨trivial, hP⟩
set_option maxRecDepth 100000 in
theorem roX {p q : Int32} (h : tb_g M n A B) : am_M (d + 5) false nm_X11_row [aR 0, aI p, aI q] M (fun t N => ((p < 0 ∨ nI n ≤ p) ∧ t = .inl (some (aI (-1))) ∧ N = M) ∨ ∃ j, j < n ∧ p = nI j ∧ t = .inl (some (aI (roV (redR n A j) q))) ∧ ((N = M ∧ M.1 25 4 = 1 ∧ A = redR n A) ∨ N = strM M n A)) := by
  obtain ⟨n20, h3, h81, hr, cA, cB, eAB, h4⟩ := h
  refine ⟨rfl, rfl, rfl, fun X hX => am_run hX 2 _ _ _ _ ?_⟩
  have no : (p < 0 ∨ nI n ≤ p) → X 15 [some (aR 0), some (aI p), some (aI q)] [] M := fun z => by
    refine am_run hX 2 _ _ _ _ ?_
    conv => whnf
    exact ⟨trivial, Or.inl ⟨z, rfl, rfl⟩⟩
  conv => whnf
  refine ⟨fun c => no (Or.inl c), fun c => ?_⟩
  obtain ⟨j, j31, rfl⟩ := nI_of c
  refine am_run hX 5 _ _ _ _ ?_
  conv => whnf
  rw [h3]
  by_cases hj : j < n
  · refine ⟨fun _ => ?_, fun z => absurd (nI_lt hj (by omega)) z⟩
    refine am_run hX 3 _ _ _ _ ?_
    conv => whnf
    rcases h4 with h4 | ⟨h4, eA⟩
    · have key := ct_str0 (e := d) (M := M) (Y := A) h3 h4 n20 (fun j hj => (hr j hj).1)
      rw [gA_self (fun j hj => (hr j hj).2.2.1)] at key
      refine am_c0 key ?_
      conv => whnf
      refine roX_r (M := strM M n A) hX (by omega) (y := redR n A j) (gA_row (M := M) (Y := redR n A) hj) (Or.inr ⟨j, hj, rfl, rfl, Or.inr rfl⟩)
    · refine am_c0 (ct_str1 (e := d) h3 n20 h4) ?_
      conv => whnf
      refine roX_r (M := M) hX (by omega) (y := redR n A j) (by rw [← eA]; exact (hr j hj).2.2.1) (Or.inr ⟨j, hj, rfl, rfl, Or.inl ⟨rfl, h4, eA⟩⟩)
  · exact ⟨fun z => absurd z (nI_nlt (by omega) (by omega)), fun _ => no (Or.inr (nI_le (by omega) j31))⟩
set_option maxRecDepth 100000 in
theorem roR {p q : Int32} (n20 : n ≤ 20) (h81 : M.1 108 81 = nI n) (hr : ∀ j, j < n → rw_n n (B j) ∧ rB M j (B j)) (cB : allc n B) : am_M (d + 4) false nm_X12_row [aR 108, aI p, aI q] M (fun t N => ((p < 0 ∨ nI n ≤ p) ∧ t = .inl (some (aI (-1))) ∧ N = th0 M) ∨ ∃ j, j < n ∧ p = nI j ∧ t = .inl (some (aI (roV (redR n B j) q))) ∧ (N = th0 M ∨ N = gB (th0 M) (redR n B) n)) := by
  refine ⟨rfl, rfl, rfl, fun X hX => am_run hX 5 _ _ _ _ ?_⟩
  have no : (p < 0 ∨ nI n ≤ p) → X 26 [some (aR 108), some (aI p), some (aI q)] [] (th0 M) := fun z => by
    refine am_run hX 2 _ _ _ _ ?_
    conv => whnf
    exact ⟨trivial, Or.inl ⟨z, rfl, rfl⟩⟩
  conv => whnf
  refine ⟨fun c => no (Or.inl c), fun c => ?_⟩
  show X 9 _ _ (th0 M)
  obtain ⟨j, j31, rfl⟩ := nI_of c
  refine am_run hX 4 _ _ _ _ ?_
  conv => whnf
  rw [show (th0 M).1 108 81 = nI n from h81]
  by_cases hj : j < n
  · refine ⟨fun z => absurd z (nI_ge hj (by omega)), fun _ => ?_⟩
    have hI : vp_in (nI j) 20 := vp_in_nI (by omega) (by decide)
    have bad : ¬ (q = 0 ∨ q = 1 ∨ q = 2) → X 26 [some (aR 108), some (aI (nI j)), some (aI q)] [] (th0 M) := fun z => by
      refine am_run hX 2 _ _ _ _ ?_
      conv => whnf
      refine ⟨trivial, Or.inr ⟨j, hj, rfl, ?_, Or.inl rfl⟩⟩
      have e : roV (redR n B j) q = -1 := by
        unfold roV
        rw [if_neg (fun y => z (Or.inl y)), if_neg (fun y => z (Or.inr (Or.inl y))), if_neg (fun y => z (Or.inr (Or.inr y)))]
      rw [e]
    refine am_run hX 2 _ _ _ _ ?_
    conv => whnf
    refine ⟨fun c1 => bad fun z => ?_, fun c1 => ?_⟩
    · rcases z with rfl | rfl | rfl
      · exact absurd c1 (by decide)
      · exact absurd c1 (by decide)
      · exact absurd c1 (by decide)
    obtain ⟨k, k31, rfl⟩ := nI_of c1
    refine am_run hX 3 _ _ _ _ ?_
    conv => whnf
    by_cases k2 : k ≤ 2
    · refine ⟨fun _ => ?_, fun z => absurd (nI_le (b := 2) k2 (by decide)) z⟩
      have key := ct_rr (e := d) (M := th0 M) (Y := B) (n := n) h81 n20 (fun j hj => (hr j hj).1) cB
      rw [gB_self (M := th0 M) (fun j hj => (hr j hj).2)] at key
      refine am_run hX 2 _ _ _ _ ?_
      conv => whnf
      refine am_c0 key ?_
      conv => whnf
      have g := gB_row (M := th0 M) (Y := redR n B) hj
      refine am_run hX 2 _ _ _ _ ?_
      conv => whnf
      by_cases k0 : k = 0
      · subst k0
        refine ⟨fun z => absurd rfl z, fun _ => ?_⟩
        refine am_run hX 6 _ _ _ _ ?_
        conv => whnf
        refine ⟨hI, ?_⟩
        conv => whnf
        rw [nI_clamp (n := j) (by omega), g.1]
        exact ⟨trivial, Or.inr ⟨j, hj, rfl, rfl, Or.inr rfl⟩⟩
      refine ⟨fun _ => ?_, fun z => absurd (fun y => k0 ((nI_eq (b := 0) (by omega) (by decide)).mp y)) z⟩
      refine am_run hX 3 _ _ _ _ ?_
      conv => whnf
      by_cases k1 : k = 1
      · subst k1
        refine ⟨fun z => absurd rfl z, fun _ => ?_⟩
        refine am_run hX 6 _ _ _ _ ?_
        conv => whnf
        refine ⟨hI, ?_⟩
        conv => whnf
        rw [nI_clamp (n := j) (by omega), g.2.1]
        exact ⟨trivial, Or.inr ⟨j, hj, rfl, rfl, Or.inr rfl⟩⟩
      refine ⟨fun _ => ?_, fun z => absurd (fun y => k1 ((nI_eq (b := 1) (by omega) (by decide)).mp y)) z⟩
      have e2 : k = 2 := by omega
      subst e2
      refine am_run hX 5 _ _ _ _ ?_
      conv => whnf
      refine ⟨hI, ?_⟩
      conv => whnf
      rw [nI_clamp (n := j) (by omega), g.2.2]
      exact ⟨trivial, Or.inr ⟨j, hj, rfl, rfl, Or.inr rfl⟩⟩
    · refine ⟨fun z => absurd z (nI_ge (a := 2) (b := k) (by omega) k31), fun _ => bad fun z => ?_⟩
      rcases z with z | z | z
      · have := (nI_eq (b := 0) k31 (by decide)).mp z; omega
      · have := (nI_eq (b := 1) k31 (by decide)).mp z; omega
      · have := (nI_eq (b := 2) k31 (by decide)).mp z; omega
  · exact ⟨fun _ => no (Or.inr (nI_le (by omega) j31)), fun z => absurd (nI_le (by omega) j31) z⟩
end ROW
