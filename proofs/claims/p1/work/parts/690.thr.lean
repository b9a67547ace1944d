/-! pairs of methods that throw: the law's own method that catches, the reference behind it -/
/-- the law's own cell -/
def lt_o (M : mm_M) (v : Int64) : mm_M := mm_l M 202 (vp_updL (M.2 202) 0 v)
theorem xw_hd' {hh : List (Nat × Nat × Nat × Nat × String)} {a : Nat × Nat × Nat × Nat × String} {b : List (Nat × Nat × Nat × Nat × String)} {sv : xm_V} {post : xm_Q} {X : xm_X} {pc t : Nat} {L : xm_L} {E : String} {h : xm_H} {rc rs : Nat} (he : hh = a :: b) (h1 : ∀ e ∈ a :: b, e.2.2.2.2 = E ∨ (E, e.2.2.2.2) ∈ sv.2.2.2.2.1) (h2 : xm_hd pc E (a :: b) = some t) (k : ∀ q : Nat, X t L [.ref q] h rc rs) : xm_kx hh sv post X pc L E h rc rs := by
  subst he
  refine ⟨h1, ?_⟩
  rw [h2]
  exact k
section LTT
variable {ac : Nat → ClassId} {lo : Nat} {ad as : Nat → Nat} {b L : Nat} {xs : Nat → Int32} {hp : mm_M → Nat → xm_H} {I J : mm_M → Prop}
theorem lt_ret (H : mm_L ac lo hp) {x : Nat} {us : List am_V} {M M1 : mm_M} {v : am_V} {z : Nat} {r vs : List Value} {K : List Value → xm_H → Nat → Nat → Prop} {KX : String → xm_H → Nat → Nat → Prop} (hv : vs = us.map (am_c lo ad)) (hs : (r.map fun v => v.category).sum ≤ 8) (h : am_M 999 true x (aR 0 :: us) M (fun r M' => r = .inl (some v) ∧ M' = M1)) (k : K (am_c lo ad v :: r) (hp M1 z) 0 0) : xm_call (xm_M xp ac lo xp_fty xp_dfl (xp_sv ad as (b, L, xs)) 999) x (.ref (lo + 0) :: vs) r (hp M z) 1 6 K KX := by
  subst hv
  have := am_sound (ad := ad) (sa := as) (b := b) (L0 := L) (xs := xs) H _ _ _ _ _ _ h z
  rw [am_p1, am_as 0 (by decide)] at this
  exact xw1 1 6 hs (Nat.le_refl _) (Nat.le_refl _) this k
theorem lt_thr (H : mm_L ac lo hp) {x : Nat} {us : List am_V} {M M1 : mm_M} {E : String} {z : Nat} {r vs : List Value} {K : List Value → xm_H → Nat → Nat → Prop} {KX : String → xm_H → Nat → Nat → Prop} (hv : vs = us.map (am_c lo ad)) (hs : (r.map fun v => v.category).sum ≤ 8) (h : am_M 999 true x (aR 0 :: us) M (fun r M' => r = .inr E ∧ M' = M1)) (k : ∀ z', KX E (hp M1 z') 0 0) : xm_call (xm_M xp ac lo xp_fty xp_dfl (xp_sv ad as (b, L, xs)) 999) x (.ref (lo + 0) :: vs) r (hp M z) 1 6 K KX := by
  subst hv
  have := am_sound (ad := ad) (sa := as) (b := b) (L0 := L) (xs := xs) H _ _ _ _ _ _ h z
  rw [am_as 0 (by decide)] at this
  refine ⟨hs, 1, 6, _, Nat.le_refl _, Nat.le_refl _, this, fun v h' q => ?_, fun E' h' q => ?_⟩
  · obtain ⟨r', M', z', e1, e2, e3, e4, e5⟩ := q
    subst e4
    cases e1
  · obtain ⟨r', M', z', e1, e2, e3, e4, e5⟩ := q
    subst e4
    subst e5
    subst e2
    cases e1
    exact k z'

set_option maxRecDepth 100000 in
theorem lt_circuit_r (H : mm_L ac lo hp) {M M1 : mm_M} {v : Int32} (h : am_M 999 true nm_X11_circuit (aR 0 :: []) M (fun r M' => r = .inl (some (aI v)) ∧ M' = M1)) (z : Nat) : xm_M xp ac lo xp_fty xp_dfl (xp_sv ad as (b, L, xs)) 1000 nm_L_circuit (.ref (lo + 0) :: ([] ++ [.ref (lo + 202)])) (hp M z) 1 6 (la_q hp 0 (lt_o M1 v.toInt64)) := by
  refine ⟨rfl, Nat.le_of_ble_eq_true rfl, Nat.le_of_ble_eq_true rfl, fun X hX => xm_run hX 30 _ _ _ _ _ _ ?_⟩
  conv => whnf
  refine ⟨xw_O (by rw [H.1]; rfl), lt_ret H (ad := ad) (us := []) rfl (Nat.le_of_ble_eq_true rfl) h ?_⟩
  conv => whnf
  rw [H.1]
  conv => whnf
  refine ⟨rfl, vp_in_nI (n := 0) (N := 1) (by decide) (by decide), Nat.le_add_right _ _, ?_⟩
  rw [show Int32.toNatClampNeg 0 = 0 from rfl, H.2.2.2.1 _ _ 202 (vp_updL (M1.2 202) 0 v.toInt64) _ rfl]
  conv => whnf
  exact ⟨⟨.int, rfl, rfl⟩, rfl, _, rfl⟩
set_option maxRecDepth 100000 in
theorem lt_circuit_1 (H : mm_L ac lo hp) {M M1 : mm_M} (h : am_M 999 true nm_X11_circuit (aR 0 :: []) M (fun r M' => r = .inr "java/lang/IllegalStateException" ∧ M' = M1)) (z : Nat) : xm_M xp ac lo xp_fty xp_dfl (xp_sv ad as (b, L, xs)) 1000 nm_L_circuit (.ref (lo + 0) :: ([] ++ [.ref (lo + 202)])) (hp M z) 1 6 (la_q hp 1 M1) := by
  refine ⟨rfl, Nat.le_of_ble_eq_true rfl, Nat.le_of_ble_eq_true rfl, fun X hX => xm_run hX 30 _ _ _ _ _ _ ?_⟩
  conv => whnf
  refine ⟨xw_O (by rw [H.1]; rfl), lt_thr H (ad := ad) (us := []) rfl (Nat.le_of_ble_eq_true rfl) h (fun z' => ?_)⟩
  refine xw_hd' (hh := (0, 8, 11, 13, "java/lang/IllegalStateException") :: [(0, 8, 14, 15, "java/lang/IllegalArgumentException")]) rfl (by
      intro e he
      simp only [List.mem_cons, List.not_mem_nil, or_false] at he
      rcases he with rfl | rfl
      · exact Or.inl rfl
      · exact Or.inr (show ("java/lang/IllegalStateException", "java/lang/IllegalArgumentException") ∈ xp_pr by decide)
      ) (by decide +kernel : xm_hd 3 "java/lang/IllegalStateException" [(0, 8, 11, 13, "java/lang/IllegalStateException"), (0, 8, 14, 15, "java/lang/IllegalArgumentException")] = some 11) (fun q => ?_)
  conv => whnf
  refine ⟨Nat.le_of_ble_eq_true rfl, ?_⟩
  conv => whnf
  exact ⟨⟨.int, rfl, rfl⟩, rfl, _, rfl⟩
set_option maxRecDepth 100000 in
theorem lt_circuit_2 (H : mm_L ac lo hp) {M M1 : mm_M} (h : am_M 999 true nm_X11_circuit (aR 0 :: []) M (fun r M' => r = .inr "java/lang/IllegalArgumentException" ∧ M' = M1)) (z : Nat) : xm_M xp ac lo xp_fty xp_dfl (xp_sv ad as (b, L, xs)) 1000 nm_L_circuit (.ref (lo + 0) :: ([] ++ [.ref (lo + 202)])) (hp M z) 1 6 (la_q hp 2 M1) := by
  refine ⟨rfl, Nat.le_of_ble_eq_true rfl, Nat.le_of_ble_eq_true rfl, fun X hX => xm_run hX 30 _ _ _ _ _ _ ?_⟩
  conv => whnf
  refine ⟨xw_O (by rw [H.1]; rfl), lt_thr H (ad := ad) (us := []) rfl (Nat.le_of_ble_eq_true rfl) h (fun z' => ?_)⟩
  refine xw_hd' (hh := (0, 8, 11, 13, "java/lang/IllegalStateException") :: [(0, 8, 14, 15, "java/lang/IllegalArgumentException")]) rfl (by
      intro e he
      simp only [List.mem_cons, List.not_mem_nil, or_false] at he
      rcases he with rfl | rfl
      · exact Or.inr (show ("java/lang/IllegalArgumentException", "java/lang/IllegalStateException") ∈ xp_pr by decide)
      · exact Or.inl rfl
      ) (by decide +kernel : xm_hd 3 "java/lang/IllegalArgumentException" [(0, 8, 11, 13, "java/lang/IllegalStateException"), (0, 8, 14, 15, "java/lang/IllegalArgumentException")] = some 14) (fun q => ?_)
  conv => whnf
  refine ⟨Nat.le_of_ble_eq_true rfl, ?_⟩
  conv => whnf
  exact ⟨⟨.int, rfl, rfl⟩, rfl, _, rfl⟩
/-- the pair circuit, by contracts of the memory's machine -/
theorem lt_circuit (H : mm_L ac lo hp) (h : ∀ M, I M → am_M 999 true nm_X11_circuit (aR 0 :: []) M (fun r M1 => (∃ v, r = .inl (some (aI v)) ∧ am_M 1000 false nm_X12_circuit (aR 108 :: []) (lt_o M1 v.toInt64) (fun r' M2 => r' = .inl (some (aI v)) ∧ M2.1 108 0 = 0 ∧ M2.2 202 0 = v.toInt64 ∧ J M2)) ∨ (r = .inr "java/lang/IllegalStateException" ∧ am_M 1000 false nm_X12_circuit (aR 108 :: []) M1 (fun r' M2 => (∃ w, r' = .inl (some (aI w))) ∧ M2.1 108 0 = 1 ∧ J M2)) ∨ (r = .inr "java/lang/IllegalArgumentException" ∧ am_M 1000 false nm_X12_circuit (aR 108 :: []) M1 (fun r' M2 => (∃ w, r' = .inl (some (aI w))) ∧ M2.1 108 0 = 2 ∧ J M2)))) : la_TI ac lo ad as b L xs hp I J nm_L_circuit nm_X12_circuit [] := by
  intro M z hI
  obtain ⟨r, M1, h2, h1⟩ := am_det _ _ _ _ _ _ (h M hI)
  rcases h2 with ⟨v, rfl, h2⟩ | ⟨rfl, h2⟩ | ⟨rfl, h2⟩
  · obtain ⟨r', M2, ⟨rfl, e1, e2, hJ⟩, h2⟩ := am_det _ _ _ _ _ _ h2
    refine ⟨0, v, lt_o M1 v.toInt64, M2, lt_circuit_r H h1 z, fun z => ?_, e1, fun _ => e2, hJ⟩
    have := am_sound (ad := ad) (sa := as) (b := b) (L0 := L) (xs := xs) H _ _ _ _ _ _ h2 z
    rw [am_p1, am_as 108 (by decide)] at this
    exact this
  · obtain ⟨r', M2, ⟨⟨w, rfl⟩, e1, hJ⟩, h2⟩ := am_det _ _ _ _ _ _ h2
    refine ⟨1, w, M1, M2, lt_circuit_1 H h1 z, fun z => ?_, e1, fun c => absurd c (by decide), hJ⟩
    have := am_sound (ad := ad) (sa := as) (b := b) (L0 := L) (xs := xs) H _ _ _ _ _ _ h2 z
    rw [am_p1, am_as 108 (by decide)] at this
    exact this
  · obtain ⟨r', M2, ⟨⟨w, rfl⟩, e1, hJ⟩, h2⟩ := am_det _ _ _ _ _ _ h2
    refine ⟨2, w, M1, M2, lt_circuit_2 H h1 z, fun z => ?_, e1, fun c => absurd c (by decide), hJ⟩
    have := am_sound (ad := ad) (sa := as) (b := b) (L0 := L) (xs := xs) H _ _ _ _ _ _ h2 z
    rw [am_p1, am_as 108 (by decide)] at this
    exact this
set_option maxRecDepth 100000 in
theorem lt_run_r (H : mm_L ac lo hp) (p0 : Int32) {M M1 : mm_M} {v : Int32} (h : am_M 999 true nm_X11_run (aR 0 :: [aI p0]) M (fun r M' => r = .inl (some (aI v)) ∧ M' = M1)) (z : Nat) : xm_M xp ac lo xp_fty xp_dfl (xp_sv ad as (b, L, xs)) 1000 nm_L_run (.ref (lo + 0) :: ([.int p0] ++ [.ref (lo + 202)])) (hp M z) 1 6 (la_q hp 0 (lt_o M1 v.toInt64)) := by
  refine ⟨rfl, Nat.le_of_ble_eq_true rfl, Nat.le_of_ble_eq_true rfl, fun X hX => xm_run hX 30 _ _ _ _ _ _ ?_⟩
  conv => whnf
  refine ⟨xw_O (by rw [H.1]; rfl), lt_ret H (ad := ad) (us := [aI p0]) rfl (Nat.le_of_ble_eq_true rfl) h ?_⟩
  conv => whnf
  rw [H.1]
  conv => whnf
  refine ⟨rfl, vp_in_nI (n := 0) (N := 1) (by decide) (by decide), Nat.le_add_right _ _, ?_⟩
  rw [show Int32.toNatClampNeg 0 = 0 from rfl, H.2.2.2.1 _ _ 202 (vp_updL (M1.2 202) 0 v.toInt64) _ rfl]
  conv => whnf
  exact ⟨⟨.int, rfl, rfl⟩, rfl, _, rfl⟩
set_option maxRecDepth 100000 in
theorem lt_run_1 (H : mm_L ac lo hp) (p0 : Int32) {M M1 : mm_M} (h : am_M 999 true nm_X11_run (aR 0 :: [aI p0]) M (fun r M' => r = .inr "java/lang/IllegalArgumentException" ∧ M' = M1)) (z : Nat) : xm_M xp ac lo xp_fty xp_dfl (xp_sv ad as (b, L, xs)) 1000 nm_L_run (.ref (lo + 0) :: ([.int p0] ++ [.ref (lo + 202)])) (hp M z) 1 6 (la_q hp 1 M1) := by
  refine ⟨rfl, Nat.le_of_ble_eq_true rfl, Nat.le_of_ble_eq_true rfl, fun X hX => xm_run hX 30 _ _ _ _ _ _ ?_⟩
  conv => whnf
  refine ⟨xw_O (by rw [H.1]; rfl), lt_thr H (ad := ad) (us := [aI p0]) rfl (Nat.le_of_ble_eq_true rfl) h (fun z' => ?_)⟩
  refine xw_hd' (hh := (0, 9, 12, 15, "java/lang/IllegalArgumentException") :: [(0, 9, 15, 13, "java/lang/IllegalStateException")]) rfl (by
      intro e he
      simp only [List.mem_cons, List.not_mem_nil, or_false] at he
      rcases he with rfl | rfl
      · exact Or.inl rfl
      · exact Or.inr (show ("java/lang/IllegalArgumentException", "java/lang/IllegalStateException") ∈ xp_pr by decide)
      ) (by decide +kernel : xm_hd 4 "java/lang/IllegalArgumentException" [(0, 9, 12, 15, "java/lang/IllegalArgumentException"), (0, 9, 15, 13, "java/lang/IllegalStateException")] = some 12) (fun q => ?_)
  conv => whnf
  refine ⟨Nat.le_of_ble_eq_true rfl, ?_⟩
  conv => whnf
  exact ⟨⟨.int, rfl, rfl⟩, rfl, _, rfl⟩
set_option maxRecDepth 100000 in
theorem lt_run_2 (H : mm_L ac lo hp) (p0 : Int32) {M M1 : mm_M} (h : am_M 999 true nm_X11_run (aR 0 :: [aI p0]) M (fun r M' => r = .inr "java/lang/IllegalStateException" ∧ M' = M1)) (z : Nat) : xm_M xp ac lo xp_fty xp_dfl (xp_sv ad as (b, L, xs)) 1000 nm_L_run (.ref (lo + 0) :: ([.int p0] ++ [.ref (lo + 202)])) (hp M z) 1 6 (la_q hp 2 M1) := by
  refine ⟨rfl, Nat.le_of_ble_eq_true rfl, Nat.le_of_ble_eq_true rfl, fun X hX => xm_run hX 30 _ _ _ _ _ _ ?_⟩
  conv => whnf
  refine ⟨xw_O (by rw [H.1]; rfl), lt_thr H (ad := ad) (us := [aI p0]) rfl (Nat.le_of_ble_eq_true rfl) h (fun z' => ?_)⟩
  refine xw_hd' (hh := (0, 9, 12, 15, "java/lang/IllegalArgumentException") :: [(0, 9, 15, 13, "java/lang/IllegalStateException")]) rfl (by
      intro e he
      simp only [List.mem_cons, List.not_mem_nil, or_false] at he
      rcases he with rfl | rfl
      · exact Or.inr (show ("java/lang/IllegalStateException", "java/lang/IllegalArgumentException") ∈ xp_pr by decide)
      · exact Or.inl rfl
      ) (by decide +kernel : xm_hd 4 "java/lang/IllegalStateException" [(0, 9, 12, 15, "java/lang/IllegalArgumentException"), (0, 9, 15, 13, "java/lang/IllegalStateException")] = some 15) (fun q => ?_)
  conv => whnf
  refine ⟨Nat.le_of_ble_eq_true rfl, ?_⟩
  conv => whnf
  exact ⟨⟨.int, rfl, rfl⟩, rfl, _, rfl⟩
/-- the pair run, by contracts of the memory's machine -/
theorem lt_run (H : mm_L ac lo hp) (p0 : Int32) (h : ∀ M, I M → am_M 999 true nm_X11_run (aR 0 :: [aI p0]) M (fun r M1 => (∃ v, r = .inl (some (aI v)) ∧ am_M 1000 false nm_X12_run (aR 108 :: [aI p0]) (lt_o M1 v.toInt64) (fun r' M2 => r' = .inl (some (aI v)) ∧ M2.1 108 0 = 0 ∧ M2.2 202 0 = v.toInt64 ∧ J M2)) ∨ (r = .inr "java/lang/IllegalArgumentException" ∧ am_M 1000 false nm_X12_run (aR 108 :: [aI p0]) M1 (fun r' M2 => (∃ w, r' = .inl (some (aI w))) ∧ M2.1 108 0 = 1 ∧ J M2)) ∨ (r = .inr "java/lang/IllegalStateException" ∧ am_M 1000 false nm_X12_run (aR 108 :: [aI p0]) M1 (fun r' M2 => (∃ w, r' = .inl (some (aI w))) ∧ M2.1 108 0 = 2 ∧ J M2)))) : la_TI ac lo ad as b L xs hp I J nm_L_run nm_X12_run [.int p0] := by
  intro M z hI
  obtain ⟨r, M1, h2, h1⟩ := am_det _ _ _ _ _ _ (h M hI)
  rcases h2 with ⟨v, rfl, h2⟩ | ⟨rfl, h2⟩ | ⟨rfl, h2⟩
  · obtain ⟨r', M2, ⟨rfl, e1, e2, hJ⟩, h2⟩ := am_det _ _ _ _ _ _ h2
    refine ⟨0, v, lt_o M1 v.toInt64, M2, lt_run_r H p0 h1 z, fun z => ?_, e1, fun _ => e2, hJ⟩
    have := am_sound (ad := ad) (sa := as) (b := b) (L0 := L) (xs := xs) H _ _ _ _ _ _ h2 z
    rw [am_p1, am_as 108 (by decide)] at this
    exact this
  · obtain ⟨r', M2, ⟨⟨w, rfl⟩, e1, hJ⟩, h2⟩ := am_det _ _ _ _ _ _ h2
    refine ⟨1, w, M1, M2, lt_run_1 H p0 h1 z, fun z => ?_, e1, fun c => absurd c (by decide), hJ⟩
    have := am_sound (ad := ad) (sa := as) (b := b) (L0 := L) (xs := xs) H _ _ _ _ _ _ h2 z
    rw [am_p1, am_as 108 (by decide)] at this
    exact this
  · obtain ⟨r', M2, ⟨⟨w, rfl⟩, e1, hJ⟩, h2⟩ := am_det _ _ _ _ _ _ h2
    refine ⟨2, w, M1, M2, lt_run_2 H p0 h1 z, fun z => ?_, e1, fun c => absurd c (by decide), hJ⟩
    have := am_sound (ad := ad) (sa := as) (b := b) (L0 := L) (xs := xs) H _ _ _ _ _ _ h2 z
    rw [am_p1, am_as 108 (by decide)] at this
    exact this
set_option maxRecDepth 100000 in
theorem lt_amplitude_r (H : mm_L ac lo hp) (p0 : Int32) (p1 : Int32) {M M1 : mm_M} {v : Int64} (h : am_M 999 true nm_X11_amplitude (aR 0 :: [aI p0, aI p1]) M (fun r M' => r = .inl (some (aJ v)) ∧ M' = M1)) (z : Nat) : xm_M xp ac lo xp_fty xp_dfl (xp_sv ad as (b, L, xs)) 1000 nm_L_amplitude (.ref (lo + 0) :: ([.int p0, .int p1] ++ [.ref (lo + 202)])) (hp M z) 1 6 (la_q hp 0 (lt_o M1 v)) := by
  refine ⟨rfl, Nat.le_of_ble_eq_true rfl, Nat.le_of_ble_eq_true rfl, fun X hX => xm_run hX 30 _ _ _ _ _ _ ?_⟩
  conv => whnf
  refine ⟨xw_O (by rw [H.1]; rfl), lt_ret H (ad := ad) (us := [aI p0, aI p1]) rfl (Nat.le_of_ble_eq_true rfl) h ?_⟩
  conv => whnf
  rw [H.1]
  conv => whnf
  refine ⟨rfl, vp_in_nI (n := 0) (N := 1) (by decide) (by decide), Nat.le_add_right _ _, ?_⟩
  rw [show Int32.toNatClampNeg 0 = 0 from rfl, H.2.2.2.1 _ _ 202 (vp_updL (M1.2 202) 0 v) _ rfl]
  conv => whnf
  exact ⟨⟨.int, rfl, rfl⟩, rfl, _, rfl⟩
set_option maxRecDepth 100000 in
theorem lt_amplitude_1 (H : mm_L ac lo hp) (p0 : Int32) (p1 : Int32) {M M1 : mm_M} (h : am_M 999 true nm_X11_amplitude (aR 0 :: [aI p0, aI p1]) M (fun r M' => r = .inr "java/util/NoSuchElementException" ∧ M' = M1)) (z : Nat) : xm_M xp ac lo xp_fty xp_dfl (xp_sv ad as (b, L, xs)) 1000 nm_L_amplitude (.ref (lo + 0) :: ([.int p0, .int p1] ++ [.ref (lo + 202)])) (hp M z) 1 6 (la_q hp 1 M1) := by
  refine ⟨rfl, Nat.le_of_ble_eq_true rfl, Nat.le_of_ble_eq_true rfl, fun X hX => xm_run hX 30 _ _ _ _ _ _ ?_⟩
  conv => whnf
  refine ⟨xw_O (by rw [H.1]; rfl), lt_thr H (ad := ad) (us := [aI p0, aI p1]) rfl (Nat.le_of_ble_eq_true rfl) h (fun z' => ?_)⟩
  refine xw_hd' (hh := (0, 9, 12, 25, "java/util/NoSuchElementException") :: []) rfl (by
      intro e he
      simp only [List.mem_cons, List.not_mem_nil, or_false] at he
      subst he
      exact Or.inl rfl
      ) (by decide +kernel : xm_hd 5 "java/util/NoSuchElementException" [(0, 9, 12, 25, "java/util/NoSuchElementException")] = some 12) (fun q => ?_)
  conv => whnf
  refine ⟨Nat.le_of_ble_eq_true rfl, ?_⟩
  conv => whnf
  exact ⟨⟨.int, rfl, rfl⟩, rfl, _, rfl⟩
/-- the pair amplitude, by contracts of the memory's machine -/
theorem lt_amplitude (H : mm_L ac lo hp) (p0 : Int32) (p1 : Int32) (h : ∀ M, I M → am_M 999 true nm_X11_amplitude (aR 0 :: [aI p0, aI p1]) M (fun r M1 => (∃ v, r = .inl (some (aJ v)) ∧ am_M 1000 false nm_X12_amplitude (aR 108 :: [aI p0, aI p1]) (lt_o M1 v) (fun r' M2 => r' = .inl (some (aJ v)) ∧ M2.1 108 0 = 0 ∧ M2.2 202 0 = v ∧ J M2)) ∨ (r = .inr "java/util/NoSuchElementException" ∧ am_M 1000 false nm_X12_amplitude (aR 108 :: [aI p0, aI p1]) M1 (fun r' M2 => (∃ w, r' = .inl (some (aJ w))) ∧ M2.1 108 0 = 1 ∧ J M2)))) : la_TJ ac lo ad as b L xs hp I J nm_L_amplitude nm_X12_amplitude [.int p0, .int p1] := by
  intro M z hI
  obtain ⟨r, M1, h2, h1⟩ := am_det _ _ _ _ _ _ (h M hI)
  rcases h2 with ⟨v, rfl, h2⟩ | ⟨rfl, h2⟩
  · obtain ⟨r', M2, ⟨rfl, e1, e2, hJ⟩, h2⟩ := am_det _ _ _ _ _ _ h2
    refine ⟨0, v, lt_o M1 v, M2, lt_amplitude_r H p0 p1 h1 z, fun z => ?_, e1, fun _ => e2, hJ⟩
    have := am_sound (ad := ad) (sa := as) (b := b) (L0 := L) (xs := xs) H _ _ _ _ _ _ h2 z
    rw [am_p1, am_as 108 (by decide)] at this
    exact this
  · obtain ⟨r', M2, ⟨⟨w, rfl⟩, e1, hJ⟩, h2⟩ := am_det _ _ _ _ _ _ h2
    refine ⟨1, w, M1, M2, lt_amplitude_1 H p0 p1 h1 z, fun z => ?_, e1, fun c => absurd c (by decide), hJ⟩
    have := am_sound (ad := ad) (sa := as) (b := b) (L0 := L) (xs := xs) H _ _ _ _ _ _ h2 z
    rw [am_p1, am_as 108 (by decide)] at this
    exact this
set_option maxRecDepth 100000 in
theorem lt_weight_r (H : mm_L ac lo hp) (p0 : Int32) (p1 : Int32) (p2 : Int32) {M M1 : mm_M} {v : Int64} (h : am_M 999 true nm_X11_weight (aR 0 :: [aI p0, aI p1, aI p2]) M (fun r M' => r = .inl (some (aJ v)) ∧ M' = M1)) (z : Nat) : xm_M xp ac lo xp_fty xp_dfl (xp_sv ad as (b, L, xs)) 1000 nm_L_weight (.ref (lo + 0) :: ([.int p0, .int p1, .int p2] ++ [.ref (lo + 202)])) (hp M z) 1 6 (la_q hp 0 (lt_o M1 v)) := by
  refine ⟨rfl, Nat.le_of_ble_eq_true rfl, Nat.le_of_ble_eq_true rfl, fun X hX => xm_run hX 30 _ _ _ _ _ _ ?_⟩
  conv => whnf
  refine ⟨xw_O (by rw [H.1]; rfl), lt_ret H (ad := ad) (us := [aI p0, aI p1, aI p2]) rfl (Nat.le_of_ble_eq_true rfl) h ?_⟩
  conv => whnf
  rw [H.1]
  conv => whnf
  refine ⟨rfl, vp_in_nI (n := 0) (N := 1) (by decide) (by decide), Nat.le_add_right _ _, ?_⟩
  rw [show Int32.toNatClampNeg 0 = 0 from rfl, H.2.2.2.1 _ _ 202 (vp_updL (M1.2 202) 0 v) _ rfl]
  conv => whnf
  exact ⟨⟨.int, rfl, rfl⟩, rfl, _, rfl⟩
set_option maxRecDepth 100000 in
theorem lt_weight_1 (H : mm_L ac lo hp) (p0 : Int32) (p1 : Int32) (p2 : Int32) {M M1 : mm_M} (h : am_M 999 true nm_X11_weight (aR 0 :: [aI p0, aI p1, aI p2]) M (fun r M' => r = .inr "java/util/NoSuchElementException" ∧ M' = M1)) (z : Nat) : xm_M xp ac lo xp_fty xp_dfl (xp_sv ad as (b, L, xs)) 1000 nm_L_weight (.ref (lo + 0) :: ([.int p0, .int p1, .int p2] ++ [.ref (lo + 202)])) (hp M z) 1 6 (la_q hp 1 M1) := by
  refine ⟨rfl, Nat.le_of_ble_eq_true rfl, Nat.le_of_ble_eq_true rfl, fun X hX => xm_run hX 30 _ _ _ _ _ _ ?_⟩
  conv => whnf
  refine ⟨xw_O (by rw [H.1]; rfl), lt_thr H (ad := ad) (us := [aI p0, aI p1, aI p2]) rfl (Nat.le_of_ble_eq_true rfl) h (fun z' => ?_)⟩
  refine xw_hd' (hh := (0, 11, 14, 25, "java/util/NoSuchElementException") :: []) rfl (by
      intro e he
      simp only [List.mem_cons, List.not_mem_nil, or_false] at he
      subst he
      exact Or.inl rfl
      ) (by decide +kernel : xm_hd 7 "java/util/NoSuchElementException" [(0, 11, 14, 25, "java/util/NoSuchElementException")] = some 14) (fun q => ?_)
  conv => whnf
  refine ⟨Nat.le_of_ble_eq_true rfl, ?_⟩
  conv => whnf
  exact ⟨⟨.int, rfl, rfl⟩, rfl, _, rfl⟩
/-- the pair weight, by contracts of the memory's machine -/
theorem lt_weight (H : mm_L ac lo hp) (p0 : Int32) (p1 : Int32) (p2 : Int32) (h : ∀ M, I M → am_M 999 true nm_X11_weight (aR 0 :: [aI p0, aI p1, aI p2]) M (fun r M1 => (∃ v, r = .inl (some (aJ v)) ∧ am_M 1000 false nm_X12_weight (aR 108 :: [aI p0, aI p1, aI p2]) (lt_o M1 v) (fun r' M2 => r' = .inl (some (aJ v)) ∧ M2.1 108 0 = 0 ∧ M2.2 202 0 = v ∧ J M2)) ∨ (r = .inr "java/util/NoSuchElementException" ∧ am_M 1000 false nm_X12_weight (aR 108 :: [aI p0, aI p1, aI p2]) M1 (fun r' M2 => (∃ w, r' = .inl (some (aJ w))) ∧ M2.1 108 0 = 1 ∧ J M2)))) : la_TJ ac lo ad as b L xs hp I J nm_L_weight nm_X12_weight [.int p0, .int p1, .int p2] := by
  intro M z hI
  obtain ⟨r, M1, h2, h1⟩ := am_det _ _ _ _ _ _ (h M hI)
  rcases h2 with ⟨v, rfl, h2⟩ | ⟨rfl, h2⟩
  · obtain ⟨r', M2, ⟨rfl, e1, e2, hJ⟩, h2⟩ := am_det _ _ _ _ _ _ h2
    refine ⟨0, v, lt_o M1 v, M2, lt_weight_r H p0 p1 p2 h1 z, fun z => ?_, e1, fun _ => e2, hJ⟩
    have := am_sound (ad := ad) (sa := as) (b := b) (L0 := L) (xs := xs) H _ _ _ _ _ _ h2 z
    rw [am_p1, am_as 108 (by decide)] at this
    exact this
  · obtain ⟨r', M2, ⟨⟨w, rfl⟩, e1, hJ⟩, h2⟩ := am_det _ _ _ _ _ _ h2
    refine ⟨1, w, M1, M2, lt_weight_1 H p0 p1 p2 h1 z, fun z => ?_, e1, fun c => absurd c (by decide), hJ⟩
    have := am_sound (ad := ad) (sa := as) (b := b) (L0 := L) (xs := xs) H _ _ _ _ _ _ h2 z
    rw [am_p1, am_as 108 (by decide)] at this
    exact this
set_option maxRecDepth 100000 in
theorem lt_expected_r (H : mm_L ac lo hp) (p0 : Int32) (p1 : Int32) (p2 : Int32) {M M1 : mm_M} {v : Int64} (h : am_M 999 true nm_X11_expected (aR 0 :: [aI p0, aI p1, aI p2]) M (fun r M' => r = .inl (some (aJ v)) ∧ M' = M1)) (z : Nat) : xm_M xp ac lo xp_fty xp_dfl (xp_sv ad as (b, L, xs)) 1000 nm_L_expected (.ref (lo + 0) :: ([.int p0, .int p1, .int p2] ++ [.ref (lo + 202)])) (hp M z) 1 6 (la_q hp 0 (lt_o M1 v)) := by
  refine ⟨rfl, Nat.le_of_ble_eq_true rfl, Nat.le_of_ble_eq_true rfl, fun X hX => xm_run hX 30 _ _ _ _ _ _ ?_⟩
  conv => whnf
  refine ⟨xw_O (by rw [H.1]; rfl), lt_ret H (ad := ad) (us := [aI p0, aI p1, aI p2]) rfl (Nat.le_of_ble_eq_true rfl) h ?_⟩
  conv => whnf
  rw [H.1]
  conv => whnf
  refine ⟨rfl, vp_in_nI (n := 0) (N := 1) (by decide) (by decide), Nat.le_add_right _ _, ?_⟩
  rw [show Int32.toNatClampNeg 0 = 0 from rfl, H.2.2.2.1 _ _ 202 (vp_updL (M1.2 202) 0 v) _ rfl]
  conv => whnf
  exact ⟨⟨.int, rfl, rfl⟩, rfl, _, rfl⟩
set_option maxRecDepth 100000 in
theorem lt_expected_1 (H : mm_L ac lo hp) (p0 : Int32) (p1 : Int32) (p2 : Int32) {M M1 : mm_M} (h : am_M 999 true nm_X11_expected (aR 0 :: [aI p0, aI p1, aI p2]) M (fun r M' => r = .inr "java/util/NoSuchElementException" ∧ M' = M1)) (z : Nat) : xm_M xp ac lo xp_fty xp_dfl (xp_sv ad as (b, L, xs)) 1000 nm_L_expected (.ref (lo + 0) :: ([.int p0, .int p1, .int p2] ++ [.ref (lo + 202)])) (hp M z) 1 6 (la_q hp 1 M1) := by
  refine ⟨rfl, Nat.le_of_ble_eq_true rfl, Nat.le_of_ble_eq_true rfl, fun X hX => xm_run hX 30 _ _ _ _ _ _ ?_⟩
  conv => whnf
  refine ⟨xw_O (by rw [H.1]; rfl), lt_thr H (ad := ad) (us := [aI p0, aI p1, aI p2]) rfl (Nat.le_of_ble_eq_true rfl) h (fun z' => ?_)⟩
  refine xw_hd' (hh := (0, 11, 14, 25, "java/util/NoSuchElementException") :: []) rfl (by
      intro e he
      simp only [List.mem_cons, List.not_mem_nil, or_false] at he
      subst he
      exact Or.inl rfl
      ) (by decide +kernel : xm_hd 7 "java/util/NoSuchElementException" [(0, 11, 14, 25, "java/util/NoSuchElementException")] = some 14) (fun q => ?_)
  conv => whnf
  refine ⟨Nat.le_of_ble_eq_true rfl, ?_⟩
  conv => whnf
  exact ⟨⟨.int, rfl, rfl⟩, rfl, _, rfl⟩
/-- the pair expected, by contracts of the memory's machine -/
theorem lt_expected (H : mm_L ac lo hp) (p0 : Int32) (p1 : Int32) (p2 : Int32) (h : ∀ M, I M → am_M 999 true nm_X11_expected (aR 0 :: [aI p0, aI p1, aI p2]) M (fun r M1 => (∃ v, r = .inl (some (aJ v)) ∧ am_M 1000 false nm_X12_expected (aR 108 :: [aI p0, aI p1, aI p2]) (lt_o M1 v) (fun r' M2 => r' = .inl (some (aJ v)) ∧ M2.1 108 0 = 0 ∧ M2.2 202 0 = v ∧ J M2)) ∨ (r = .inr "java/util/NoSuchElementException" ∧ am_M 1000 false nm_X12_expected (aR 108 :: [aI p0, aI p1, aI p2]) M1 (fun r' M2 => (∃ w, r' = .inl (some (aJ w))) ∧ M2.1 108 0 = 1 ∧ J M2)))) : la_TJ ac lo ad as b L xs hp I J nm_L_expected nm_X12_expected [.int p0, .int p1, .int p2] := by
  intro M z hI
  obtain ⟨r, M1, h2, h1⟩ := am_det _ _ _ _ _ _ (h M hI)
  rcases h2 with ⟨v, rfl, h2⟩ | ⟨rfl, h2⟩
  · obtain ⟨r', M2, ⟨rfl, e1, e2, hJ⟩, h2⟩ := am_det _ _ _ _ _ _ h2
    refine ⟨0, v, lt_o M1 v, M2, lt_expected_r H p0 p1 p2 h1 z, fun z => ?_, e1, fun _ => e2, hJ⟩
    have := am_sound (ad := ad) (sa := as) (b := b) (L0 := L) (xs := xs) H _ _ _ _ _ _ h2 z
    rw [am_p1, am_as 108 (by decide)] at this
    exact this
  · obtain ⟨r', M2, ⟨⟨w, rfl⟩, e1, hJ⟩, h2⟩ := am_det _ _ _ _ _ _ h2
    refine ⟨1, w, M1, M2, lt_expected_1 H p0 p1 p2 h1 z, fun z => ?_, e1, fun c => absurd c (by decide), hJ⟩
    have := am_sound (ad := ad) (sa := as) (b := b) (L0 := L) (xs := xs) H _ _ _ _ _ _ h2 z
    rw [am_p1, am_as 108 (by decide)] at this
    exact this
set_option maxRecDepth 100000 in
theorem lt_mixed_r (H : mm_L ac lo hp) (p0 : Int32) (p1 : Int32) (p2 : Int32) (p3 : Int32) {M M1 : mm_M} {v : Int64} (h : am_M 999 true nm_X11_mixed (aR 0 :: [aI p0, aI p1, aI p2, aI p3]) M (fun r M' => r = .inl (some (aJ v)) ∧ M' = M1)) (z : Nat) : xm_M xp ac lo xp_fty xp_dfl (xp_sv ad as (b, L, xs)) 1000 nm_L_mixed (.ref (lo + 0) :: ([.int p0, .int p1, .int p2, .int p3] ++ [.ref (lo + 202)])) (hp M z) 1 6 (la_q hp 0 (lt_o M1 v)) := by
  refine ⟨rfl, Nat.le_of_ble_eq_true rfl, Nat.le_of_ble_eq_true rfl, fun X hX => xm_run hX 30 _ _ _ _ _ _ ?_⟩
  conv => whnf
  refine ⟨xw_O (by rw [H.1]; rfl), lt_ret H (ad := ad) (us := [aI p0, aI p1, aI p2, aI p3]) rfl (Nat.le_of_ble_eq_true rfl) h ?_⟩
  conv => whnf
  rw [H.1]
  conv => whnf
  refine ⟨rfl, vp_in_nI (n := 0) (N := 1) (by decide) (by decide), Nat.le_add_right _ _, ?_⟩
  rw [show Int32.toNatClampNeg 0 = 0 from rfl, H.2.2.2.1 _ _ 202 (vp_updL (M1.2 202) 0 v) _ rfl]
  conv => whnf
  exact ⟨⟨.int, rfl, rfl⟩, rfl, _, rfl⟩
set_option maxRecDepth 100000 in
theorem lt_mixed_1 (H : mm_L ac lo hp) (p0 : Int32) (p1 : Int32) (p2 : Int32) (p3 : Int32) {M M1 : mm_M} (h : am_M 999 true nm_X11_mixed (aR 0 :: [aI p0, aI p1, aI p2, aI p3]) M (fun r M' => r = .inr "java/util/NoSuchElementException" ∧ M' = M1)) (z : Nat) : xm_M xp ac lo xp_fty xp_dfl (xp_sv ad as (b, L, xs)) 1000 nm_L_mixed (.ref (lo + 0) :: ([.int p0, .int p1, .int p2, .int p3] ++ [.ref (lo + 202)])) (hp M z) 1 6 (la_q hp 1 M1) := by
  refine ⟨rfl, Nat.le_of_ble_eq_true rfl, Nat.le_of_ble_eq_true rfl, fun X hX => xm_run hX 30 _ _ _ _ _ _ ?_⟩
  conv => whnf
  refine ⟨xw_O (by rw [H.1]; rfl), lt_thr H (ad := ad) (us := [aI p0, aI p1, aI p2, aI p3]) rfl (Nat.le_of_ble_eq_true rfl) h (fun z' => ?_)⟩
  refine xw_hd' (hh := (0, 13, 16, 25, "java/util/NoSuchElementException") :: []) rfl (by
      intro e he
      simp only [List.mem_cons, List.not_mem_nil, or_false] at he
      subst he
      exact Or.inl rfl
      ) (by decide +kernel : xm_hd 9 "java/util/NoSuchElementException" [(0, 13, 16, 25, "java/util/NoSuchElementException")] = some 16) (fun q => ?_)
  conv => whnf
  refine ⟨Nat.le_of_ble_eq_true rfl, ?_⟩
  conv => whnf
  exact ⟨⟨.int, rfl, rfl⟩, rfl, _, rfl⟩
/-- the pair mixed, by contracts of the memory's machine -/
theorem lt_mixed (H : mm_L ac lo hp) (p0 : Int32) (p1 : Int32) (p2 : Int32) (p3 : Int32) (h : ∀ M, I M → am_M 999 true nm_X11_mixed (aR 0 :: [aI p0, aI p1, aI p2, aI p3]) M (fun r M1 => (∃ v, r = .inl (some (aJ v)) ∧ am_M 1000 false nm_X12_mixed (aR 108 :: [aI p0, aI p1, aI p2, aI p3]) (lt_o M1 v) (fun r' M2 => r' = .inl (some (aJ v)) ∧ M2.1 108 0 = 0 ∧ M2.2 202 0 = v ∧ J M2)) ∨ (r = .inr "java/util/NoSuchElementException" ∧ am_M 1000 false nm_X12_mixed (aR 108 :: [aI p0, aI p1, aI p2, aI p3]) M1 (fun r' M2 => (∃ w, r' = .inl (some (aJ w))) ∧ M2.1 108 0 = 1 ∧ J M2)))) : la_TJ ac lo ad as b L xs hp I J nm_L_mixed nm_X12_mixed [.int p0, .int p1, .int p2, .int p3] := by
  intro M z hI
  obtain ⟨r, M1, h2, h1⟩ := am_det _ _ _ _ _ _ (h M hI)
  rcases h2 with ⟨v, rfl, h2⟩ | ⟨rfl, h2⟩
  · obtain ⟨r', M2, ⟨rfl, e1, e2, hJ⟩, h2⟩ := am_det _ _ _ _ _ _ h2
    refine ⟨0, v, lt_o M1 v, M2, lt_mixed_r H p0 p1 p2 p3 h1 z, fun z => ?_, e1, fun _ => e2, hJ⟩
    have := am_sound (ad := ad) (sa := as) (b := b) (L0 := L) (xs := xs) H _ _ _ _ _ _ h2 z
    rw [am_p1, am_as 108 (by decide)] at this
    exact this
  · obtain ⟨r', M2, ⟨⟨w, rfl⟩, e1, hJ⟩, h2⟩ := am_det _ _ _ _ _ _ h2
    refine ⟨1, w, M1, M2, lt_mixed_1 H p0 p1 p2 p3 h1 z, fun z => ?_, e1, fun c => absurd c (by decide), hJ⟩
    have := am_sound (ad := ad) (sa := as) (b := b) (L0 := L) (xs := xs) H _ _ _ _ _ _ h2 z
    rw [am_p1, am_as 108 (by decide)] at this
    exact this
set_option maxRecDepth 100000 in
theorem lt_meaning_r (H : mm_L ac lo hp) (p0 : Int32) (p1 : Int32) (p2 : Int32) {M M1 : mm_M} {v : Int64} (h : am_M 999 true nm_X11_meaning (aR 0 :: [aI p0, aI p1, aI p2]) M (fun r M' => r = .inl (some (aJ v)) ∧ M' = M1)) (z : Nat) : xm_M xp ac lo xp_fty xp_dfl (xp_sv ad as (b, L, xs)) 1000 nm_L_meaning (.ref (lo + 0) :: ([.int p0, .int p1, .int p2] ++ [.ref (lo + 202)])) (hp M z) 1 6 (la_q hp 0 (lt_o M1 v)) := by
  refine ⟨rfl, Nat.le_of_ble_eq_true rfl, Nat.le_of_ble_eq_true rfl, fun X hX => xm_run hX 30 _ _ _ _ _ _ ?_⟩
  conv => whnf
  refine ⟨xw_O (by rw [H.1]; rfl), lt_ret H (ad := ad) (us := [aI p0, aI p1, aI p2]) rfl (Nat.le_of_ble_eq_true rfl) h ?_⟩
  conv => whnf
  rw [H.1]
  conv => whnf
  refine ⟨rfl, vp_in_nI (n := 0) (N := 1) (by decide) (by decide), Nat.le_add_right _ _, ?_⟩
  rw [show Int32.toNatClampNeg 0 = 0 from rfl, H.2.2.2.1 _ _ 202 (vp_updL (M1.2 202) 0 v) _ rfl]
  conv => whnf
  exact ⟨⟨.int, rfl, rfl⟩, rfl, _, rfl⟩
set_option maxRecDepth 100000 in
theorem lt_meaning_1 (H : mm_L ac lo hp) (p0 : Int32) (p1 : Int32) (p2 : Int32) {M M1 : mm_M} (h : am_M 999 true nm_X11_meaning (aR 0 :: [aI p0, aI p1, aI p2]) M (fun r M' => r = .inr "java/util/NoSuchElementException" ∧ M' = M1)) (z : Nat) : xm_M xp ac lo xp_fty xp_dfl (xp_sv ad as (b, L, xs)) 1000 nm_L_meaning (.ref (lo + 0) :: ([.int p0, .int p1, .int p2] ++ [.ref (lo + 202)])) (hp M z) 1 6 (la_q hp 1 M1) := by
  refine ⟨rfl, Nat.le_of_ble_eq_true rfl, Nat.le_of_ble_eq_true rfl, fun X hX => xm_run hX 30 _ _ _ _ _ _ ?_⟩
  conv => whnf
  refine ⟨xw_O (by rw [H.1]; rfl), lt_thr H (ad := ad) (us := [aI p0, aI p1, aI p2]) rfl (Nat.le_of_ble_eq_true rfl) h (fun z' => ?_)⟩
  refine xw_hd' (hh := (0, 11, 14, 25, "java/util/NoSuchElementException") :: [(0, 11, 18, 13, "java/lang/IllegalStateException")]) rfl (by
      intro e he
      simp only [List.mem_cons, List.not_mem_nil, or_false] at he
      rcases he with rfl | rfl
      · exact Or.inl rfl
      · exact Or.inr (show ("java/util/NoSuchElementException", "java/lang/IllegalStateException") ∈ xp_pr by decide)
      ) (by decide +kernel : xm_hd 7 "java/util/NoSuchElementException" [(0, 11, 14, 25, "java/util/NoSuchElementException"), (0, 11, 18, 13, "java/lang/IllegalStateException")] = some 14) (fun q => ?_)
  conv => whnf
  refine ⟨Nat.le_of_ble_eq_true rfl, ?_⟩
  conv => whnf
  exact ⟨⟨.int, rfl, rfl⟩, rfl, _, rfl⟩
set_option maxRecDepth 100000 in
theorem lt_meaning_2 (H : mm_L ac lo hp) (p0 : Int32) (p1 : Int32) (p2 : Int32) {M M1 : mm_M} (h : am_M 999 true nm_X11_meaning (aR 0 :: [aI p0, aI p1, aI p2]) M (fun r M' => r = .inr "java/lang/IllegalStateException" ∧ M' = M1)) (z : Nat) : xm_M xp ac lo xp_fty xp_dfl (xp_sv ad as (b, L, xs)) 1000 nm_L_meaning (.ref (lo + 0) :: ([.int p0, .int p1, .int p2] ++ [.ref (lo + 202)])) (hp M z) 1 6 (la_q hp 2 M1) := by
  refine ⟨rfl, Nat.le_of_ble_eq_true rfl, Nat.le_of_ble_eq_true rfl, fun X hX => xm_run hX 30 _ _ _ _ _ _ ?_⟩
  conv => whnf
  refine ⟨xw_O (by rw [H.1]; rfl), lt_thr H (ad := ad) (us := [aI p0, aI p1, aI p2]) rfl (Nat.le_of_ble_eq_true rfl) h (fun z' => ?_)⟩
  refine xw_hd' (hh := (0, 11, 14, 25, "java/util/NoSuchElementException") :: [(0, 11, 18, 13, "java/lang/IllegalStateException")]) rfl (by
      intro e he
      simp only [List.mem_cons, List.not_mem_nil, or_false] at he
      rcases he with rfl | rfl
      · exact Or.inr (show ("java/lang/IllegalStateException", "java/util/NoSuchElementException") ∈ xp_pr by decide)
      · exact Or.inl rfl
      ) (by decide +kernel : xm_hd 7 "java/lang/IllegalStateException" [(0, 11, 14, 25, "java/util/NoSuchElementException"), (0, 11, 18, 13, "java/lang/IllegalStateException")] = some 18) (fun q => ?_)
  conv => whnf
  refine ⟨Nat.le_of_ble_eq_true rfl, ?_⟩
  conv => whnf
  exact ⟨⟨.int, rfl, rfl⟩, rfl, _, rfl⟩
/-- the pair meaning, by contracts of the memory's machine -/
theorem lt_meaning (H : mm_L ac lo hp) (p0 : Int32) (p1 : Int32) (p2 : Int32) (h : ∀ M, I M → am_M 999 true nm_X11_meaning (aR 0 :: [aI p0, aI p1, aI p2]) M (fun r M1 => (∃ v, r = .inl (some (aJ v)) ∧ am_M 1000 false nm_X12_meaning (aR 108 :: [aI p0, aI p1, aI p2]) (lt_o M1 v) (fun r' M2 => r' = .inl (some (aJ v)) ∧ M2.1 108 0 = 0 ∧ M2.2 202 0 = v ∧ J M2)) ∨ (r = .inr "java/util/NoSuchElementException" ∧ am_M 1000 false nm_X12_meaning (aR 108 :: [aI p0, aI p1, aI p2]) M1 (fun r' M2 => (∃ w, r' = .inl (some (aJ w))) ∧ M2.1 108 0 = 1 ∧ J M2)) ∨ (r = .inr "java/lang/IllegalStateException" ∧ am_M 1000 false nm_X12_meaning (aR 108 :: [aI p0, aI p1, aI p2]) M1 (fun r' M2 => (∃ w, r' = .inl (some (aJ w))) ∧ M2.1 108 0 = 2 ∧ J M2)))) : la_TJ ac lo ad as b L xs hp I J nm_L_meaning nm_X12_meaning [.int p0, .int p1, .int p2] := by
  intro M z hI
  obtain ⟨r, M1, h2, h1⟩ := am_det _ _ _ _ _ _ (h M hI)
  rcases h2 with ⟨v, rfl, h2⟩ | ⟨rfl, h2⟩ | ⟨rfl, h2⟩
  · obtain ⟨r', M2, ⟨rfl, e1, e2, hJ⟩, h2⟩ := am_det _ _ _ _ _ _ h2
    refine ⟨0, v, lt_o M1 v, M2, lt_meaning_r H p0 p1 p2 h1 z, fun z => ?_, e1, fun _ => e2, hJ⟩
    have := am_sound (ad := ad) (sa := as) (b := b) (L0 := L) (xs := xs) H _ _ _ _ _ _ h2 z
    rw [am_p1, am_as 108 (by decide)] at this
    exact this
  · obtain ⟨r', M2, ⟨⟨w, rfl⟩, e1, hJ⟩, h2⟩ := am_det _ _ _ _ _ _ h2
    refine ⟨1, w, M1, M2, lt_meaning_1 H p0 p1 p2 h1 z, fun z => ?_, e1, fun c => absurd c (by decide), hJ⟩
    have := am_sound (ad := ad) (sa := as) (b := b) (L0 := L) (xs := xs) H _ _ _ _ _ _ h2 z
    rw [am_p1, am_as 108 (by decide)] at this
    exact this
  · obtain ⟨r', M2, ⟨⟨w, rfl⟩, e1, hJ⟩, h2⟩ := am_det _ _ _ _ _ _ h2
    refine ⟨2, w, M1, M2, lt_meaning_2 H p0 p1 p2 h1 z, fun z => ?_, e1, fun c => absurd c (by decide), hJ⟩
    have := am_sound (ad := ad) (sa := as) (b := b) (L0 := L) (xs := xs) H _ _ _ _ _ _ h2 z
    rw [am_p1, am_as 108 (by decide)] at this
    exact this
set_option maxRecDepth 100000 in
theorem lt_code_r (H : mm_L ac lo hp) {M M1 : mm_M} {v : Int32} (h : am_M 999 true nm_X11_code (aR 0 :: []) M (fun r M' => r = .inl (some (aI v)) ∧ M' = M1)) (z : Nat) : xm_M xp ac lo xp_fty xp_dfl (xp_sv ad as (b, L, xs)) 1000 nm_L_code (.ref (lo + 0) :: ([] ++ [.ref (lo + 202)])) (hp M z) 1 6 (la_q hp 0 (lt_o M1 v.toInt64)) := by
  refine ⟨rfl, Nat.le_of_ble_eq_true rfl, Nat.le_of_ble_eq_true rfl, fun X hX => xm_run hX 30 _ _ _ _ _ _ ?_⟩
  conv => whnf
  refine ⟨xw_O (by rw [H.1]; rfl), lt_ret H (ad := ad) (us := []) rfl (Nat.le_of_ble_eq_true rfl) h ?_⟩
  conv => whnf
  rw [H.1]
  conv => whnf
  refine ⟨rfl, vp_in_nI (n := 0) (N := 1) (by decide) (by decide), Nat.le_add_right _ _, ?_⟩
  rw [show Int32.toNatClampNeg 0 = 0 from rfl, H.2.2.2.1 _ _ 202 (vp_updL (M1.2 202) 0 v.toInt64) _ rfl]
  conv => whnf
  exact ⟨⟨.int, rfl, rfl⟩, rfl, _, rfl⟩
set_option maxRecDepth 100000 in
theorem lt_code_1 (H : mm_L ac lo hp) {M M1 : mm_M} (h : am_M 999 true nm_X11_code (aR 0 :: []) M (fun r M' => r = .inr "java/lang/IllegalArgumentException" ∧ M' = M1)) (z : Nat) : xm_M xp ac lo xp_fty xp_dfl (xp_sv ad as (b, L, xs)) 1000 nm_L_code (.ref (lo + 0) :: ([] ++ [.ref (lo + 202)])) (hp M z) 1 6 (la_q hp 1 M1) := by
  refine ⟨rfl, Nat.le_of_ble_eq_true rfl, Nat.le_of_ble_eq_true rfl, fun X hX => xm_run hX 30 _ _ _ _ _ _ ?_⟩
  conv => whnf
  refine ⟨xw_O (by rw [H.1]; rfl), lt_thr H (ad := ad) (us := []) rfl (Nat.le_of_ble_eq_true rfl) h (fun z' => ?_)⟩
  refine xw_hd' (hh := (0, 8, 11, 15, "java/lang/IllegalArgumentException") :: []) rfl (by
      intro e he
      simp only [List.mem_cons, List.not_mem_nil, or_false] at he
      subst he
      exact Or.inl rfl
      ) (by decide +kernel : xm_hd 3 "java/lang/IllegalArgumentException" [(0, 8, 11, 15, "java/lang/IllegalArgumentException")] = some 11) (fun q => ?_)
  conv => whnf
  refine ⟨Nat.le_of_ble_eq_true rfl, ?_⟩
  conv => whnf
  exact ⟨⟨.int, rfl, rfl⟩, rfl, _, rfl⟩
/-- the pair code, by contracts of the memory's machine -/
theorem lt_code (H : mm_L ac lo hp) (h : ∀ M, I M → am_M 999 true nm_X11_code (aR 0 :: []) M (fun r M1 => (∃ v, r = .inl (some (aI v)) ∧ am_M 1000 false nm_X12_code (aR 108 :: []) (lt_o M1 v.toInt64) (fun r' M2 => r' = .inl (some (aI v)) ∧ M2.1 108 0 = 0 ∧ M2.2 202 0 = v.toInt64 ∧ J M2)) ∨ (r = .inr "java/lang/IllegalArgumentException" ∧ am_M 1000 false nm_X12_code (aR 108 :: []) M1 (fun r' M2 => (∃ w, r' = .inl (some (aI w))) ∧ M2.1 108 0 = 1 ∧ J M2)))) : la_TI ac lo ad as b L xs hp I J nm_L_code nm_X12_code [] := by
  intro M z hI
  obtain ⟨r, M1, h2, h1⟩ := am_det _ _ _ _ _ _ (h M hI)
  rcases h2 with ⟨v, rfl, h2⟩ | ⟨rfl, h2⟩
  · obtain ⟨r', M2, ⟨rfl, e1, e2, hJ⟩, h2⟩ := am_det _ _ _ _ _ _ h2
    refine ⟨0, v, lt_o M1 v.toInt64, M2, lt_code_r H h1 z, fun z => ?_, e1, fun _ => e2, hJ⟩
    have := am_sound (ad := ad) (sa := as) (b := b) (L0 := L) (xs := xs) H _ _ _ _ _ _ h2 z
    rw [am_p1, am_as 108 (by decide)] at this
    exact this
  · obtain ⟨r', M2, ⟨⟨w, rfl⟩, e1, hJ⟩, h2⟩ := am_det _ _ _ _ _ _ h2
    refine ⟨1, w, M1, M2, lt_code_1 H h1 z, fun z => ?_, e1, fun c => absurd c (by decide), hJ⟩
    have := am_sound (ad := ad) (sa := as) (b := b) (L0 := L) (xs := xs) H _ _ _ _ _ _ h2 z
    rw [am_p1, am_as 108 (by decide)] at this
    exact this
set_option maxRecDepth 100000 in
theorem lt_told_r (H : mm_L ac lo hp) (p0 : Int32) (p1 : Int32) {M M1 : mm_M} {v : Int32} (h : am_M 999 true nm_X11_told (aR 0 :: [aI p0, aI p1]) M (fun r M' => r = .inl (some (aI v)) ∧ M' = M1)) (z : Nat) : xm_M xp ac lo xp_fty xp_dfl (xp_sv ad as (b, L, xs)) 1000 nm_L_told (.ref (lo + 0) :: ([.int p0, .int p1] ++ [.ref (lo + 202)])) (hp M z) 1 6 (la_q hp 0 (lt_o M1 v.toInt64)) := by
  refine ⟨rfl, Nat.le_of_ble_eq_true rfl, Nat.le_of_ble_eq_true rfl, fun X hX => xm_run hX 30 _ _ _ _ _ _ ?_⟩
  conv => whnf
  refine ⟨xw_O (by rw [H.1]; rfl), lt_ret H (ad := ad) (us := [aI p0, aI p1]) rfl (Nat.le_of_ble_eq_true rfl) h ?_⟩
  conv => whnf
  rw [H.1]
  conv => whnf
  refine ⟨rfl, vp_in_nI (n := 0) (N := 1) (by decide) (by decide), Nat.le_add_right _ _, ?_⟩
  rw [show Int32.toNatClampNeg 0 = 0 from rfl, H.2.2.2.1 _ _ 202 (vp_updL (M1.2 202) 0 v.toInt64) _ rfl]
  conv => whnf
  exact ⟨⟨.int, rfl, rfl⟩, rfl, _, rfl⟩
set_option maxRecDepth 100000 in
theorem lt_told_1 (H : mm_L ac lo hp) (p0 : Int32) (p1 : Int32) {M M1 : mm_M} (h : am_M 999 true nm_X11_told (aR 0 :: [aI p0, aI p1]) M (fun r M' => r = .inr "java/util/NoSuchElementException" ∧ M' = M1)) (z : Nat) : xm_M xp ac lo xp_fty xp_dfl (xp_sv ad as (b, L, xs)) 1000 nm_L_told (.ref (lo + 0) :: ([.int p0, .int p1] ++ [.ref (lo + 202)])) (hp M z) 1 6 (la_q hp 1 M1) := by
  refine ⟨rfl, Nat.le_of_ble_eq_true rfl, Nat.le_of_ble_eq_true rfl, fun X hX => xm_run hX 30 _ _ _ _ _ _ ?_⟩
  conv => whnf
  refine ⟨xw_O (by rw [H.1]; rfl), lt_thr H (ad := ad) (us := [aI p0, aI p1]) rfl (Nat.le_of_ble_eq_true rfl) h (fun z' => ?_)⟩
  refine xw_hd' (hh := (0, 10, 13, 25, "java/util/NoSuchElementException") :: []) rfl (by
      intro e he
      simp only [List.mem_cons, List.not_mem_nil, or_false] at he
      subst he
      exact Or.inl rfl
      ) (by decide +kernel : xm_hd 5 "java/util/NoSuchElementException" [(0, 10, 13, 25, "java/util/NoSuchElementException")] = some 13) (fun q => ?_)
  conv => whnf
  refine ⟨Nat.le_of_ble_eq_true rfl, ?_⟩
  conv => whnf
  exact ⟨⟨.int, rfl, rfl⟩, rfl, _, rfl⟩
/-- the pair told, by contracts of the memory's machine -/
theorem lt_told (H : mm_L ac lo hp) (p0 : Int32) (p1 : Int32) (h : ∀ M, I M → am_M 999 true nm_X11_told (aR 0 :: [aI p0, aI p1]) M (fun r M1 => (∃ v, r = .inl (some (aI v)) ∧ am_M 1000 false nm_X12_told (aR 108 :: [aI p0, aI p1]) (lt_o M1 v.toInt64) (fun r' M2 => r' = .inl (some (aI v)) ∧ M2.1 108 0 = 0 ∧ M2.2 202 0 = v.toInt64 ∧ J M2)) ∨ (r = .inr "java/util/NoSuchElementException" ∧ am_M 1000 false nm_X12_told (aR 108 :: [aI p0, aI p1]) M1 (fun r' M2 => (∃ w, r' = .inl (some (aI w))) ∧ M2.1 108 0 = 1 ∧ J M2)))) : la_TI ac lo ad as b L xs hp I J nm_L_told nm_X12_told [.int p0, .int p1] := by
  intro M z hI
  obtain ⟨r, M1, h2, h1⟩ := am_det _ _ _ _ _ _ (h M hI)
  rcases h2 with ⟨v, rfl, h2⟩ | ⟨rfl, h2⟩
  · obtain ⟨r', M2, ⟨rfl, e1, e2, hJ⟩, h2⟩ := am_det _ _ _ _ _ _ h2
    refine ⟨0, v, lt_o M1 v.toInt64, M2, lt_told_r H p0 p1 h1 z, fun z => ?_, e1, fun _ => e2, hJ⟩
    have := am_sound (ad := ad) (sa := as) (b := b) (L0 := L) (xs := xs) H _ _ _ _ _ _ h2 z
    rw [am_p1, am_as 108 (by decide)] at this
    exact this
  · obtain ⟨r', M2, ⟨⟨w, rfl⟩, e1, hJ⟩, h2⟩ := am_det _ _ _ _ _ _ h2
    refine ⟨1, w, M1, M2, lt_told_1 H p0 p1 h1 z, fun z => ?_, e1, fun c => absurd c (by decide), hJ⟩
    have := am_sound (ad := ad) (sa := as) (b := b) (L0 := L) (xs := xs) H _ _ _ _ _ _ h2 z
    rw [am_p1, am_as 108 (by decide)] at this
    exact this
set_option maxRecDepth 100000 in
theorem lt_entry_r (H : mm_L ac lo hp) (p0 : Int32) (p1 : Int32) (p2 : Int32) {M M1 : mm_M} {v : Int64} (h : am_M 999 true nm_X11_entry (aR 0 :: [aI p0, aI p1, aI p2]) M (fun r M' => r = .inl (some (aJ v)) ∧ M' = M1)) (z : Nat) : xm_M xp ac lo xp_fty xp_dfl (xp_sv ad as (b, L, xs)) 1000 nm_L_entry (.ref (lo + 0) :: ([.int p0, .int p1, .int p2] ++ [.ref (lo + 202)])) (hp M z) 1 6 (la_q hp 0 (lt_o M1 v)) := by
  refine ⟨rfl, Nat.le_of_ble_eq_true rfl, Nat.le_of_ble_eq_true rfl, fun X hX => xm_run hX 30 _ _ _ _ _ _ ?_⟩
  conv => whnf
  refine ⟨xw_O (by rw [H.1]; rfl), lt_ret H (ad := ad) (us := [aI p0, aI p1, aI p2]) rfl (Nat.le_of_ble_eq_true rfl) h ?_⟩
  conv => whnf
  rw [H.1]
  conv => whnf
  refine ⟨rfl, vp_in_nI (n := 0) (N := 1) (by decide) (by decide), Nat.le_add_right _ _, ?_⟩
  rw [show Int32.toNatClampNeg 0 = 0 from rfl, H.2.2.2.1 _ _ 202 (vp_updL (M1.2 202) 0 v) _ rfl]
  conv => whnf
  exact ⟨⟨.int, rfl, rfl⟩, rfl, _, rfl⟩
set_option maxRecDepth 100000 in
theorem lt_entry_1 (H : mm_L ac lo hp) (p0 : Int32) (p1 : Int32) (p2 : Int32) {M M1 : mm_M} (h : am_M 999 true nm_X11_entry (aR 0 :: [aI p0, aI p1, aI p2]) M (fun r M' => r = .inr "java/util/NoSuchElementException" ∧ M' = M1)) (z : Nat) : xm_M xp ac lo xp_fty xp_dfl (xp_sv ad as (b, L, xs)) 1000 nm_L_entry (.ref (lo + 0) :: ([.int p0, .int p1, .int p2] ++ [.ref (lo + 202)])) (hp M z) 1 6 (la_q hp 1 M1) := by
  refine ⟨rfl, Nat.le_of_ble_eq_true rfl, Nat.le_of_ble_eq_true rfl, fun X hX => xm_run hX 30 _ _ _ _ _ _ ?_⟩
  conv => whnf
  refine ⟨xw_O (by rw [H.1]; rfl), lt_thr H (ad := ad) (us := [aI p0, aI p1, aI p2]) rfl (Nat.le_of_ble_eq_true rfl) h (fun z' => ?_)⟩
  refine xw_hd' (hh := (0, 11, 14, 25, "java/util/NoSuchElementException") :: []) rfl (by
      intro e he
      simp only [List.mem_cons, List.not_mem_nil, or_false] at he
      subst he
      exact Or.inl rfl
      ) (by decide +kernel : xm_hd 7 "java/util/NoSuchElementException" [(0, 11, 14, 25, "java/util/NoSuchElementException")] = some 14) (fun q => ?_)
  conv => whnf
  refine ⟨Nat.le_of_ble_eq_true rfl, ?_⟩
  conv => whnf
  exact ⟨⟨.int, rfl, rfl⟩, rfl, _, rfl⟩
/-- the pair entry, by contracts of the memory's machine -/
theorem lt_entry (H : mm_L ac lo hp) (p0 : Int32) (p1 : Int32) (p2 : Int32) (h : ∀ M, I M → am_M 999 true nm_X11_entry (aR 0 :: [aI p0, aI p1, aI p2]) M (fun r M1 => (∃ v, r = .inl (some (aJ v)) ∧ am_M 1000 false nm_X12_entry (aR 108 :: [aI p0, aI p1, aI p2]) (lt_o M1 v) (fun r' M2 => r' = .inl (some (aJ v)) ∧ M2.1 108 0 = 0 ∧ M2.2 202 0 = v ∧ J M2)) ∨ (r = .inr "java/util/NoSuchElementException" ∧ am_M 1000 false nm_X12_entry (aR 108 :: [aI p0, aI p1, aI p2]) M1 (fun r' M2 => (∃ w, r' = .inl (some (aJ w))) ∧ M2.1 108 0 = 1 ∧ J M2)))) : la_TJ ac lo ad as b L xs hp I J nm_L_entry nm_X12_entry [.int p0, .int p1, .int p2] := by
  intro M z hI
  obtain ⟨r, M1, h2, h1⟩ := am_det _ _ _ _ _ _ (h M hI)
  rcases h2 with ⟨v, rfl, h2⟩ | ⟨rfl, h2⟩
  · obtain ⟨r', M2, ⟨rfl, e1, e2, hJ⟩, h2⟩ := am_det _ _ _ _ _ _ h2
    refine ⟨0, v, lt_o M1 v, M2, lt_entry_r H p0 p1 p2 h1 z, fun z => ?_, e1, fun _ => e2, hJ⟩
    have := am_sound (ad := ad) (sa := as) (b := b) (L0 := L) (xs := xs) H _ _ _ _ _ _ h2 z
    rw [am_p1, am_as 108 (by decide)] at this
    exact this
  · obtain ⟨r', M2, ⟨⟨w, rfl⟩, e1, hJ⟩, h2⟩ := am_det _ _ _ _ _ _ h2
    refine ⟨1, w, M1, M2, lt_entry_1 H p0 p1 p2 h1 z, fun z => ?_, e1, fun c => absurd c (by decide), hJ⟩
    have := am_sound (ad := ad) (sa := as) (b := b) (L0 := L) (xs := xs) H _ _ _ _ _ _ h2 z
    rw [am_p1, am_as 108 (by decide)] at this
    exact this
set_option maxRecDepth 100000 in
theorem lt_purity_r (H : mm_L ac lo hp) (p0 : Int32) {M M1 : mm_M} {v : Int64} (h : am_M 999 true nm_X11_purity (aR 0 :: [aI p0]) M (fun r M' => r = .inl (some (aJ v)) ∧ M' = M1)) (z : Nat) : xm_M xp ac lo xp_fty xp_dfl (xp_sv ad as (b, L, xs)) 1000 nm_L_purity (.ref (lo + 0) :: ([.int p0] ++ [.ref (lo + 202)])) (hp M z) 1 6 (la_q hp 0 (lt_o M1 v)) := by
  refine ⟨rfl, Nat.le_of_ble_eq_true rfl, Nat.le_of_ble_eq_true rfl, fun X hX => xm_run hX 30 _ _ _ _ _ _ ?_⟩
  conv => whnf
  refine ⟨xw_O (by rw [H.1]; rfl), lt_ret H (ad := ad) (us := [aI p0]) rfl (Nat.le_of_ble_eq_true rfl) h ?_⟩
  conv => whnf
  rw [H.1]
  conv => whnf
  refine ⟨rfl, vp_in_nI (n := 0) (N := 1) (by decide) (by decide), Nat.le_add_right _ _, ?_⟩
  rw [show Int32.toNatClampNeg 0 = 0 from rfl, H.2.2.2.1 _ _ 202 (vp_updL (M1.2 202) 0 v) _ rfl]
  conv => whnf
  exact ⟨⟨.int, rfl, rfl⟩, rfl, _, rfl⟩
set_option maxRecDepth 100000 in
theorem lt_purity_1 (H : mm_L ac lo hp) (p0 : Int32) {M M1 : mm_M} (h : am_M 999 true nm_X11_purity (aR 0 :: [aI p0]) M (fun r M' => r = .inr "java/util/NoSuchElementException" ∧ M' = M1)) (z : Nat) : xm_M xp ac lo xp_fty xp_dfl (xp_sv ad as (b, L, xs)) 1000 nm_L_purity (.ref (lo + 0) :: ([.int p0] ++ [.ref (lo + 202)])) (hp M z) 1 6 (la_q hp 1 M1) := by
  refine ⟨rfl, Nat.le_of_ble_eq_true rfl, Nat.le_of_ble_eq_true rfl, fun X hX => xm_run hX 30 _ _ _ _ _ _ ?_⟩
  conv => whnf
  refine ⟨xw_O (by rw [H.1]; rfl), lt_thr H (ad := ad) (us := [aI p0]) rfl (Nat.le_of_ble_eq_true rfl) h (fun z' => ?_)⟩
  refine xw_hd' (hh := (0, 8, 11, 25, "java/util/NoSuchElementException") :: [(0, 8, 14, 55, "java/lang/ArithmeticException")]) rfl (by
      intro e he
      simp only [List.mem_cons, List.not_mem_nil, or_false] at he
      rcases he with rfl | rfl
      · exact Or.inl rfl
      · exact Or.inr (show ("java/util/NoSuchElementException", "java/lang/ArithmeticException") ∈ xp_pr by decide)
      ) (by decide +kernel : xm_hd 4 "java/util/NoSuchElementException" [(0, 8, 11, 25, "java/util/NoSuchElementException"), (0, 8, 14, 55, "java/lang/ArithmeticException")] = some 11) (fun q => ?_)
  conv => whnf
  refine ⟨Nat.le_of_ble_eq_true rfl, ?_⟩
  conv => whnf
  exact ⟨⟨.int, rfl, rfl⟩, rfl, _, rfl⟩
set_option maxRecDepth 100000 in
theorem lt_purity_2 (H : mm_L ac lo hp) (p0 : Int32) {M M1 : mm_M} (h : am_M 999 true nm_X11_purity (aR 0 :: [aI p0]) M (fun r M' => r = .inr "java/lang/ArithmeticException" ∧ M' = M1)) (z : Nat) : xm_M xp ac lo xp_fty xp_dfl (xp_sv ad as (b, L, xs)) 1000 nm_L_purity (.ref (lo + 0) :: ([.int p0] ++ [.ref (lo + 202)])) (hp M z) 1 6 (la_q hp 2 M1) := by
  refine ⟨rfl, Nat.le_of_ble_eq_true rfl, Nat.le_of_ble_eq_true rfl, fun X hX => xm_run hX 30 _ _ _ _ _ _ ?_⟩
  conv => whnf
  refine ⟨xw_O (by rw [H.1]; rfl), lt_thr H (ad := ad) (us := [aI p0]) rfl (Nat.le_of_ble_eq_true rfl) h (fun z' => ?_)⟩
  refine xw_hd' (hh := (0, 8, 11, 25, "java/util/NoSuchElementException") :: [(0, 8, 14, 55, "java/lang/ArithmeticException")]) rfl (by
      intro e he
      simp only [List.mem_cons, List.not_mem_nil, or_false] at he
      rcases he with rfl | rfl
      · exact Or.inr (show ("java/lang/ArithmeticException", "java/util/NoSuchElementException") ∈ xp_pr by decide)
      · exact Or.inl rfl
      ) (by decide +kernel : xm_hd 4 "java/lang/ArithmeticException" [(0, 8, 11, 25, "java/util/NoSuchElementException"), (0, 8, 14, 55, "java/lang/ArithmeticException")] = some 14) (fun q => ?_)
  conv => whnf
  refine ⟨Nat.le_of_ble_eq_true rfl, ?_⟩
  conv => whnf
  exact ⟨⟨.int, rfl, rfl⟩, rfl, _, rfl⟩
/-- the pair purity, by contracts of the memory's machine -/
theorem lt_purity (H : mm_L ac lo hp) (p0 : Int32) (h : ∀ M, I M → am_M 999 true nm_X11_purity (aR 0 :: [aI p0]) M (fun r M1 => (∃ v, r = .inl (some (aJ v)) ∧ am_M 1000 false nm_X12_purity (aR 108 :: [aI p0]) (lt_o M1 v) (fun r' M2 => r' = .inl (some (aJ v)) ∧ M2.1 108 0 = 0 ∧ M2.2 202 0 = v ∧ J M2)) ∨ (r = .inr "java/util/NoSuchElementException" ∧ am_M 1000 false nm_X12_purity (aR 108 :: [aI p0]) M1 (fun r' M2 => (∃ w, r' = .inl (some (aJ w))) ∧ M2.1 108 0 = 1 ∧ J M2)) ∨ (r = .inr "java/lang/ArithmeticException" ∧ am_M 1000 false nm_X12_purity (aR 108 :: [aI p0]) M1 (fun r' M2 => (∃ w, r' = .inl (some (aJ w))) ∧ M2.1 108 0 = 2 ∧ J M2)))) : la_TJ ac lo ad as b L xs hp I J nm_L_purity nm_X12_purity [.int p0] := by
  intro M z hI
  obtain ⟨r, M1, h2, h1⟩ := am_det _ _ _ _ _ _ (h M hI)
  rcases h2 with ⟨v, rfl, h2⟩ | ⟨rfl, h2⟩ | ⟨rfl, h2⟩
  · obtain ⟨r', M2, ⟨rfl, e1, e2, hJ⟩, h2⟩ := am_det _ _ _ _ _ _ h2
    refine ⟨0, v, lt_o M1 v, M2, lt_purity_r H p0 h1 z, fun z => ?_, e1, fun _ => e2, hJ⟩
    have := am_sound (ad := ad) (sa := as) (b := b) (L0 := L) (xs := xs) H _ _ _ _ _ _ h2 z
    rw [am_p1, am_as 108 (by decide)] at this
    exact this
  · obtain ⟨r', M2, ⟨⟨w, rfl⟩, e1, hJ⟩, h2⟩ := am_det _ _ _ _ _ _ h2
    refine ⟨1, w, M1, M2, lt_purity_1 H p0 h1 z, fun z => ?_, e1, fun c => absurd c (by decide), hJ⟩
    have := am_sound (ad := ad) (sa := as) (b := b) (L0 := L) (xs := xs) H _ _ _ _ _ _ h2 z
    rw [am_p1, am_as 108 (by decide)] at this
    exact this
  · obtain ⟨r', M2, ⟨⟨w, rfl⟩, e1, hJ⟩, h2⟩ := am_det _ _ _ _ _ _ h2
    refine ⟨2, w, M1, M2, lt_purity_2 H p0 h1 z, fun z => ?_, e1, fun c => absurd c (by decide), hJ⟩
    have := am_sound (ad := ad) (sa := as) (b := b) (L0 := L) (xs := xs) H _ _ _ _ _ _ h2 z
    rw [am_p1, am_as 108 (by decide)] at this
    exact this
end LTT
