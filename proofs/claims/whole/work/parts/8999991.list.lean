/-! a draft and what is laid, as a list of OPS -/
def zg (l : List bk_X) (j : Nat) : bk_X := l.getD j (0, 0, 0, 0, 0, 0)
theorem zg_l {l : List bk_X} {x : bk_X} {j : Nat} (h : j < l.length) : zg (l ++ [x]) j = zg l j := by
  unfold zg
  rw [List.getD_eq_getElem?_getD, List.getD_eq_getElem?_getD, List.getElem?_append_left h]
theorem zg_r {l : List bk_X} {x : bk_X} : zg (l ++ [x]) l.length = x := by
  unfold zg
  rw [List.getD_eq_getElem?_getD, List.getElem?_append_right (Nat.le_refl _), Nat.sub_self]
  rfl
theorem dw_x {f F G : Nat → Int32} {k : Nat} (h : ∀ j, j < k → F j = G j) : dwR f F k = dwR f G k := funext fun j => by
  unfold dwR
  by_cases c : j < k
  · rw [if_pos c, if_pos c, h j c]
  · rw [if_neg c, if_neg c]
theorem lw_x {f F G : Nat → Int32} {b k : Nat} (h : ∀ j, j < k → F j = G j) : lwR f F b k = lwR f G b k := funext fun j => by
  unfold lwR
  by_cases c : b ≤ j ∧ j < b + k
  · rw [if_pos c, if_pos c, h _ (by omega)]
  · rw [if_neg c, if_neg c]
def dlM (M : mm_M) (l : List bk_X) : mm_M := mm_i (mm_i M 13 (dwR (M.1 13) (fun j => nI (bk_p (zg l j))) (min l.length 300))) 9 (upd (M.1 9) 8 (nI l.length))
theorem dl_e (M : mm_M) {l : List bk_X} (h : l.length ≤ 300) : dlM M l = drM M (fun j => nI (bk_p (zg l j))) l.length := by
  unfold dlM drM
  rw [Nat.min_eq_left h]
theorem dl_9 (M : mm_M) (l : List bk_X) : (dlM M l).1 9 = upd (M.1 9) 8 (nI l.length) := mm_i1 _ _ _
theorem dl_13 (M : mm_M) (l : List bk_X) : (dlM M l).1 13 = dwR (M.1 13) (fun j => nI (bk_p (zg l j))) (min l.length 300) := by
  unfold dlM
  rw [mm_ne _ _ _ _ (by decide), mm_i1]
theorem dl_r (M : mm_M) (l : List bk_X) {c : Nat} (h1 : c ≠ 13) (h2 : c ≠ 9) : (dlM M l).1 c = M.1 c := by
  unfold dlM
  rw [mm_ne _ _ _ _ h2, mm_ne _ _ _ _ h1]
theorem dl_0 (M : mm_M) : dlM M [] = mm_i M 9 (upd (M.1 9) 8 0) := by
  unfold dlM
  rw [show min ([] : List bk_X).length 300 = 0 from rfl, dw_0, mm_iz]
  rfl
section LST
variable {d : Nat} {M : mm_M}
set_option maxRecDepth 100000 in
theorem ct_stDL : am_M (d + 1) false nm_X0_startDraft [aR 9] M (am_q0 (dlM M [])) := by
  refine ⟨rfl, rfl, rfl, fun X hX => am_run hX 10 _ _ _ _ ?_⟩
  conv => whnf
  exact ⟨trivial, rfl, (dl_0 M).symm⟩
set_option maxRecDepth 100000 in
theorem ct_putL {l : List bk_X} {x : bk_X} {v : Int32} (hv : v = nI (bk_p x)) (hl : l.length < 2 ^ 30) : am_M (d + 1) false nm_X0_put [aR 9, aI v] (dlM M l) (am_q0 (dlM M (l ++ [x]))) := by
  subst hv
  have e8 : (dlM M l).1 9 8 = nI l.length := by rw [dl_9]; rfl
  have ln : (l ++ [x]).length = l.length + 1 := by simp
  refine ⟨rfl, rfl, rfl, fun X hX => am_run hX 30 _ _ _ _ ?_⟩
  conv => whnf
  rw [e8]
  by_cases c : l.length < 300
  · refine ⟨fun q => absurd q (nI_ge (b := 300) c (by decide)), fun _ => ?_⟩
    conv => whnf
    rw [e8]
    refine ⟨vp_in_nI (by show l.length < 300; omega) (by decide), ?_⟩
    conv => whnf
    rw [nI_clamp (n := l.length) (by omega), mm_ne _ _ _ _ (by decide), e8, nI_1, dl_13, dl_9, upd_two, Nat.min_eq_left (Nat.le_of_lt c)]
    refine ⟨trivial, rfl, ?_⟩
    rw [dw_x (G := fun j => nI (bk_p (zg (l ++ [x]) j))) (fun j hj => by rw [zg_l hj]), show nI (bk_p x) = (fun j => nI (bk_p (zg (l ++ [x]) j))) l.length from by show _ = nI (bk_p (zg (l ++ [x]) l.length)); rw [zg_r], dw_s]
    unfold dlM
    rw [ln, Nat.min_eq_left (by omega : l.length + 1 ≤ 300), mm_ci _ _ _ (by decide : (9 : Nat) ≠ 13), mm_ii, mm_ii]
  · refine ⟨fun _ => ?_, fun q => absurd (nI_le (a := 300) (by omega) (by omega)) q⟩
    conv => whnf
    rw [e8, nI_1, dl_9, upd_two]
    refine ⟨trivial, rfl, ?_⟩
    unfold dlM
    rw [ln, Nat.min_eq_right (by omega), Nat.min_eq_right (by omega), mm_ii, dw_x (G := fun j => nI (bk_p (zg (l ++ [x]) j))) (fun j hj => by rw [zg_l (by omega)])]
set_option maxRecDepth 100000 in
theorem ct_layG {n k h : Nat} {Z : Nat → bk_X} (h6 : M.1 108 6 = nI n) (hn : n < 20) (hk : k < 300) (h60 : h ≤ 60) (hh : nI (Z k).1 = 3 → h < 60) : am_M (d + 1) false nm_X12_lay [aR 108, aI (nI (Z k).1), aI (nI (Z k).2.1), aI (nI (Z k).2.2.1), aI (nI (Z k).2.2.2.1), aI (nI (Z k).2.2.2.2.1), aI (nI (Z k).2.2.2.2.2)] (lyM M n Z k h) (am_q0 (lyM M n Z (k + 1) (h + (if nI (Z k).1 = 3 then 1 else 0)))) := by
  have e36 : (lyM M n Z k h).1 108 36 = nI k := by rw [ly_108]; rfl
  have e37 : (lyM M n Z k h).1 108 37 = nI h := by rw [ly_108]; rfl
  have e38 : (lyM M n Z k h).1 108 38 = 0 := by rw [ly_108]; rfl
  have e6 : (lyM M n Z k h).1 108 6 = nI n := by rw [ly_108]; exact h6
  have u38 : mm_i (lyM M n Z k h) 108 (upd ((lyM M n Z k h).1 108) 38 0) = lyM M n Z k h := by
    rw [show upd ((lyM M n Z k h).1 108) 38 0 = (lyM M n Z k h).1 108 from by
      rw [ly_108, upd_two], mm_iz]
  have go : ∀ {P : am_Q} {X : am_X} (hX : am_K d false nm_X12_lay P X), P (.inl none) (lyM M n Z (k + 1) (h + (if nI (Z k).1 = 3 then 1 else 0))) → X 36 [some (aR 108), some (aI (nI (Z k).1)), some (aI (nI (Z k).2.1)), some (aI (nI (Z k).2.2.1)), some (aI (nI (Z k).2.2.2.1)), some (aI (nI (Z k).2.2.2.2.1)), some (aI (nI (Z k).2.2.2.2.2)), none] [aR 108] (lyM M n Z k h) := by
    intro P X hX hP
    refine am_run hX 100 _ _ _ _ ?_
    conv => whnf
    refine ⟨⟨rfl, rfl⟩, ?_⟩
    conv => whnf
    rw [u38, e38]
    refine ⟨fun _ => ?_, fun c => absurd rfl c⟩
    conv => whnf
    rw [e6, e36, show (300 : Int32) * nI n + nI k = nI (300 * n + k) from by rw [show (300 : Int32) = nI 300 from rfl, nI_mul, nI_add]]
    refine ⟨vp_in_nI (by show _ < 6300; omega) (by decide), ?_⟩
    conv => whnf
    refine ⟨vp_in_nI (by show _ < 6300; omega) (by decide), ?_⟩
    conv => whnf
    refine ⟨vp_in_nI (by show _ < 6300; omega) (by decide), ?_⟩
    conv => whnf
    refine ⟨vp_in_nI (by show _ < 6300; omega) (by decide), ?_⟩
    conv => whnf
    refine ⟨vp_in_nI (by show _ < 6300; omega) (by decide), ?_⟩
    conv => whnf
    refine ⟨vp_in_nI (by show _ < 6300; omega) (by decide), ?_⟩
    conv => whnf
    rw [nI_clamp (n := 300 * n + k) (by omega)]
    simp only [mm_ne _ _ _ _ (by decide : (113 : Nat) ≠ 112), mm_ne _ _ _ _ (by decide : (114 : Nat) ≠ 112), mm_ne _ _ _ _ (by decide : (114 : Nat) ≠ 113), mm_ne _ _ _ _ (by decide : (115 : Nat) ≠ 112), mm_ne _ _ _ _ (by decide : (115 : Nat) ≠ 113), mm_ne _ _ _ _ (by decide : (115 : Nat) ≠ 114), mm_ne _ _ _ _ (by decide : (116 : Nat) ≠ 112), mm_ne _ _ _ _ (by decide : (116 : Nat) ≠ 113), mm_ne _ _ _ _ (by decide : (116 : Nat) ≠ 114), mm_ne _ _ _ _ (by decide : (116 : Nat) ≠ 115), mm_ne _ _ _ _ (by decide : (117 : Nat) ≠ 112), mm_ne _ _ _ _ (by decide : (117 : Nat) ≠ 113), mm_ne _ _ _ _ (by decide : (117 : Nat) ≠ 114), mm_ne _ _ _ _ (by decide : (117 : Nat) ≠ 115), mm_ne _ _ _ _ (by decide : (117 : Nat) ≠ 116), mm_ne _ _ _ _ (by decide : (108 : Nat) ≠ 112), mm_ne _ _ _ _ (by decide : (108 : Nat) ≠ 113), mm_ne _ _ _ _ (by decide : (108 : Nat) ≠ 114), mm_ne _ _ _ _ (by decide : (108 : Nat) ≠ 115), mm_ne _ _ _ _ (by decide : (108 : Nat) ≠ 116), mm_ne _ _ _ _ (by decide : (108 : Nat) ≠ 117), mm_i1, e36, nI_1]
    refine ⟨fun c => ?_, fun c => ?_⟩
    · rw [if_neg c] at hP
      conv => whnf
      simp only [mm_ne _ _ _ _ (by decide : (113 : Nat) ≠ 112), mm_ne _ _ _ _ (by decide : (114 : Nat) ≠ 112), mm_ne _ _ _ _ (by decide : (114 : Nat) ≠ 113), mm_ne _ _ _ _ (by decide : (115 : Nat) ≠ 112), mm_ne _ _ _ _ (by decide : (115 : Nat) ≠ 113), mm_ne _ _ _ _ (by decide : (115 : Nat) ≠ 114), mm_ne _ _ _ _ (by decide : (116 : Nat) ≠ 112), mm_ne _ _ _ _ (by decide : (116 : Nat) ≠ 113), mm_ne _ _ _ _ (by decide : (116 : Nat) ≠ 114), mm_ne _ _ _ _ (by decide : (116 : Nat) ≠ 115), mm_ne _ _ _ _ (by decide : (117 : Nat) ≠ 112), mm_ne _ _ _ _ (by decide : (117 : Nat) ≠ 113), mm_ne _ _ _ _ (by decide : (117 : Nat) ≠ 114), mm_ne _ _ _ _ (by decide : (117 : Nat) ≠ 115), mm_ne _ _ _ _ (by decide : (117 : Nat) ≠ 116), mm_ne _ _ _ _ (by decide : (108 : Nat) ≠ 112), mm_ne _ _ _ _ (by decide : (108 : Nat) ≠ 113), mm_ne _ _ _ _ (by decide : (108 : Nat) ≠ 114), mm_ne _ _ _ _ (by decide : (108 : Nat) ≠ 115), mm_ne _ _ _ _ (by decide : (108 : Nat) ≠ 116), mm_ne _ _ _ _ (by decide : (108 : Nat) ≠ 117), mm_i1]
      rw [up_ne (by decide : (37 : Nat) ≠ 36), e37, show nI h + 0 = nI (h + 0) from nI_add _ 0]
      refine ⟨trivial, ?_⟩
      rw [ly_up]
      exact hP
    · rw [if_pos (Decidable.byContradiction c)] at hP
      conv => whnf
      simp only [mm_ne _ _ _ _ (by decide : (113 : Nat) ≠ 112), mm_ne _ _ _ _ (by decide : (114 : Nat) ≠ 112), mm_ne _ _ _ _ (by decide : (114 : Nat) ≠ 113), mm_ne _ _ _ _ (by decide : (115 : Nat) ≠ 112), mm_ne _ _ _ _ (by decide : (115 : Nat) ≠ 113), mm_ne _ _ _ _ (by decide : (115 : Nat) ≠ 114), mm_ne _ _ _ _ (by decide : (116 : Nat) ≠ 112), mm_ne _ _ _ _ (by decide : (116 : Nat) ≠ 113), mm_ne _ _ _ _ (by decide : (116 : Nat) ≠ 114), mm_ne _ _ _ _ (by decide : (116 : Nat) ≠ 115), mm_ne _ _ _ _ (by decide : (117 : Nat) ≠ 112), mm_ne _ _ _ _ (by decide : (117 : Nat) ≠ 113), mm_ne _ _ _ _ (by decide : (117 : Nat) ≠ 114), mm_ne _ _ _ _ (by decide : (117 : Nat) ≠ 115), mm_ne _ _ _ _ (by decide : (117 : Nat) ≠ 116), mm_ne _ _ _ _ (by decide : (108 : Nat) ≠ 112), mm_ne _ _ _ _ (by decide : (108 : Nat) ≠ 113), mm_ne _ _ _ _ (by decide : (108 : Nat) ≠ 114), mm_ne _ _ _ _ (by decide : (108 : Nat) ≠ 115), mm_ne _ _ _ _ (by decide : (108 : Nat) ≠ 116), mm_ne _ _ _ _ (by decide : (108 : Nat) ≠ 117), mm_i1]
      rw [up_ne (by decide : (37 : Nat) ≠ 36), e37, nI_1]
      refine ⟨trivial, ?_⟩
      rw [ly_up]
      exact hP
  refine ⟨rfl, rfl, rfl, fun X hX => am_run hX 4 _ _ _ _ ?_⟩
  conv => whnf
  rw [e38]
  refine ⟨fun c => absurd rfl c, fun _ => ?_⟩
  refine am_run hX 4 _ _ _ _ ?_
  conv => whnf
  rw [e36]
  refine ⟨fun c => absurd ((nI_eq (b := 300) (by omega) (by decide)).mp c) (by omega), fun _ => ?_⟩
  refine am_run hX 3 _ _ _ _ ?_
  conv => whnf
  refine ⟨fun _ => go hX ⟨rfl, rfl⟩, fun ck => ?_⟩
  have hh := hh (Decidable.byContradiction ck)
  refine am_run hX 4 _ _ _ _ ?_
  conv => whnf
  rw [e37]
  refine ⟨fun _ => go hX ⟨rfl, rfl⟩, fun c => absurd ((nI_eq (b := 60) (by omega) (by decide)).mp (Decidable.byContradiction c)) (by omega)⟩
def lyT (M : mm_M) (n : Nat) (Z : Nat → bk_X) (c h t : Nat) : mm_M := mm_i (lyM M n Z c h) 108 (upd ((lyM M n Z c h).1 108) 38 (nI t))
theorem lyT_0 (M : mm_M) (n : Nat) (Z : Nat → bk_X) (c h : Nat) : lyT M n Z c h 0 = lyM M n Z c h := by
  unfold lyT
  rw [show upd ((lyM M n Z c h).1 108) 38 (nI 0) = (lyM M n Z c h).1 108 from by rw [ly_108, upd_two]; rfl, mm_iz]
theorem lyM_x {M : mm_M} {n : Nat} {Z Y : Nat → bk_X} {c h : Nat} (k : ∀ j, j < c → Z j = Y j) : lyM M n Z c h = lyM M n Y c h := by
  unfold lyM
  rw [lw_x (F := fun j => nI (Z j).1) (G := fun j => nI (Y j).1) (fun j hj => by rw [k j hj]), lw_x (F := fun j => nI (Z j).2.1) (G := fun j => nI (Y j).2.1) (fun j hj => by rw [k j hj]), lw_x (F := fun j => nI (Z j).2.2.1) (G := fun j => nI (Y j).2.2.1) (fun j hj => by rw [k j hj]), lw_x (F := fun j => nI (Z j).2.2.2.1) (G := fun j => nI (Y j).2.2.2.1) (fun j hj => by rw [k j hj]), lw_x (F := fun j => nI (Z j).2.2.2.2.1) (G := fun j => nI (Y j).2.2.2.2.1) (fun j hj => by rw [k j hj]), lw_x (F := fun j => nI (Z j).2.2.2.2.2) (G := fun j => nI (Y j).2.2.2.2.2) (fun j hj => by rw [k j hj])]
/-- how many are laid, how many h, whether one was too many -/
def stp (a : Nat × Nat × Nat) (x : bk_X) : Nat × Nat × Nat := if a.2.2 = 1 ∨ a.1 = 300 ∨ (x.1 = 3 ∧ a.2.1 = 60) then (a.1, a.2.1, 1) else (a.1 + 1, a.2.1 + (if x.1 = 3 then 1 else 0), 0)
def ly3 (l : List bk_X) : Nat × Nat × Nat := l.foldl stp (0, 0, 0)
def hcl (l : List bk_X) : Nat := l.foldr (fun x s => (if x.1 = 3 then 1 else 0) + s) 0
def stpP (a : Nat × Nat × Nat) (k h : Nat) : Prop := a.1 ≤ 300 ∧ a.2.1 ≤ 60 ∧ a.2.2 ≤ 1 ∧ (a.2.2 = 0 → a.1 = k ∧ a.2.1 = h) ∧ (a.2.2 = 0 ↔ k ≤ 300 ∧ h ≤ 60) ∧ a.1 ≤ k
theorem stp_p {a : Nat × Nat × Nat} {k h : Nat} (x : bk_X) (q : stpP a k h) : stpP (stp a x) (k + 1) ((if x.1 = 3 then 1 else 0) + h) := by
  obtain ⟨q1, q2, q3, q4, q5, q6⟩ := q
  unfold stp
  by_cases c : a.2.2 = 1 ∨ a.1 = 300 ∨ (x.1 = 3 ∧ a.2.1 = 60)
  · rw [if_pos c]
    refine ⟨q1, q2, Nat.le_refl _, fun e => absurd e (by show ¬ (1 = 0); omega), ⟨fun e => absurd e (by show ¬ (1 = 0); omega), fun e => ?_⟩, by show a.1 ≤ k + 1; omega⟩
    exfalso
    obtain ⟨e1, e2⟩ := e
    have z : a.2.2 = 0 := q5.mpr ⟨by omega, by omega⟩
    have ⟨z1, z2⟩ := q4 z
    rcases c with c | c | ⟨c1, c2⟩
    · omega
    · omega
    · rw [if_pos c1] at e2; omega
  · rw [if_neg c]
    have t0 : a.2.2 = 0 := by
      have : a.2.2 ≠ 1 := fun e => c (.inl e)
      omega
    have ⟨z1, z2⟩ := q4 t0
    have c3 : a.1 ≠ 300 := fun e => c (.inr (.inl e))
    have ⟨y1, y2⟩ := q5.mp t0
    by_cases x3 : x.1 = 3
    · have c6 : a.2.1 ≠ 60 := fun e => c (.inr (.inr ⟨x3, e⟩))
      rw [if_pos x3]
      exact ⟨by show a.1 + 1 ≤ 300; omega, by show a.2.1 + 1 ≤ 60; omega, Nat.zero_le _, fun _ => ⟨by show a.1 + 1 = k + 1; omega, by show a.2.1 + 1 = 1 + h; omega⟩, ⟨fun _ => ⟨by omega, by omega⟩, fun _ => rfl⟩, by show a.1 + 1 ≤ k + 1; omega⟩
    · rw [if_neg x3]
      exact ⟨by show a.1 + 1 ≤ 300; omega, by show a.2.1 + 0 ≤ 60; omega, Nat.zero_le _, fun _ => ⟨by show a.1 + 1 = k + 1; omega, by show a.2.1 + 0 = 0 + h; omega⟩, ⟨fun _ => ⟨by omega, by omega⟩, fun _ => rfl⟩, by show a.1 + 1 ≤ k + 1; omega⟩
theorem stp_l : ∀ (l : List bk_X) (a : Nat × Nat × Nat) (k h : Nat), stpP a k h → stpP (l.foldl stp a) (k + l.length) (h + hcl l)
  | [], _, _, _, q => q
  | x :: l, a, k, h, q => by
    have i := stp_l l (stp a x) (k + 1) ((if x.1 = 3 then 1 else 0) + h) (stp_p x q)
    rw [show k + (x :: l).length = k + 1 + l.length by simp; omega, show h + hcl (x :: l) = (if x.1 = 3 then 1 else 0) + h + hcl l by show h + ((if x.1 = 3 then 1 else 0) + hcl l) = _; omega]
    exact i
theorem ly3_p (l : List bk_X) : stpP (ly3 l) l.length (hcl l) := by
  have := stp_l l (0, 0, 0) 0 0 ⟨by decide, by decide, by decide, fun _ => ⟨rfl, rfl⟩, ⟨fun _ => ⟨by decide, by decide⟩, fun _ => rfl⟩, Nat.le_refl _⟩
  rw [Nat.zero_add, Nat.zero_add] at this
  exact this
theorem ly3_s (l : List bk_X) (x : bk_X) : ly3 (l ++ [x]) = stp (ly3 l) x := by
  unfold ly3
  rw [List.foldl_append]
  rfl
def llM (M : mm_M) (n : Nat) (l : List bk_X) : mm_M := lyT M n (zg l) (ly3 l).1 (ly3 l).2.1 (ly3 l).2.2
theorem ll_108 (M : mm_M) (n : Nat) (l : List bk_X) : (llM M n l).1 108 = upd (upd (upd (M.1 108) 36 (nI (ly3 l).1)) 37 (nI (ly3 l).2.1)) 38 (nI (ly3 l).2.2) := by
  unfold llM lyT
  rw [mm_i1, ly_108, upd_two]
theorem ll_r (M : mm_M) (n : Nat) (l : List bk_X) {c : Nat} (h1 : c ≠ 108) (h2 : ¬ (112 ≤ c ∧ c ≤ 117)) : (llM M n l).1 c = M.1 c := by
  unfold llM lyT
  rw [mm_ne _ _ _ _ h1, ly_r _ _ _ _ _ h1 h2]
set_option maxRecDepth 100000 in
theorem ct_stLL {n : Nat} : am_M (d + 1) false nm_X12_startLaying [aR 108] M (am_q0 (llM M n [])) := by
  have h := ct_stL (d := d) (M := M) (n := n) (Z := zg [])
  rw [show llM M n [] = lyM M n (zg []) 0 0 from lyT_0 _ _ _ _ _]
  exact h
set_option maxRecDepth 100000 in
theorem ct_layL {n : Nat} {l : List bk_X} {x : bk_X} (h6 : M.1 108 6 = nI n) (hn : n < 20) (hx : x.1 < 16) : am_M (d + 1) false nm_X12_lay [aR 108, aI (nI x.1), aI (nI x.2.1), aI (nI x.2.2.1), aI (nI x.2.2.2.1), aI (nI x.2.2.2.2.1), aI (nI x.2.2.2.2.2)] (llM M n l) (am_q0 (llM M n (l ++ [x]))) := by
  have p := ly3_p l
  obtain ⟨q1, q2, q3, q4, q5, q6⟩ := p
  have e36 : (llM M n l).1 108 36 = nI (ly3 l).1 := by rw [ll_108]; rfl
  have e37 : (llM M n l).1 108 37 = nI (ly3 l).2.1 := by rw [ll_108]; rfl
  have e38 : (llM M n l).1 108 38 = nI (ly3 l).2.2 := by rw [ll_108]; rfl
  by_cases c : (ly3 l).2.2 = 1 ∨ (ly3 l).1 = 300 ∨ (x.1 = 3 ∧ (ly3 l).2.1 = 60)
  · have e3 : ly3 (l ++ [x]) = ((ly3 l).1, (ly3 l).2.1, 1) := by rw [ly3_s]; exact if_pos c
    have eM : mm_i (llM M n l) 108 (upd ((llM M n l).1 108) 38 1) = llM M n (l ++ [x]) := by
      unfold llM lyT
      rw [e3, mm_i1, mm_ii, upd_two]
      rw [lyM_x (Z := zg (l ++ [x])) (Y := zg l) (fun j hj => zg_l (by have hj : j < (ly3 l).1 := hj; omega))]
      rfl
    have go : ∀ {P : am_Q} {X : am_X} (hX : am_K d false nm_X12_lay P X), P (.inl none) (llM M n (l ++ [x])) → X 32 [some (aR 108), some (aI (nI x.1)), some (aI (nI x.2.1)), some (aI (nI x.2.2.1)), some (aI (nI x.2.2.2.1)), some (aI (nI x.2.2.2.2.1)), some (aI (nI x.2.2.2.2.2)), none] [aR 108] (llM M n l) := by
      intro P X hX hP
      refine am_run hX 20 _ _ _ _ ?_
      conv => whnf
      refine ⟨⟨rfl, rfl⟩, ?_⟩
      conv => whnf
      rw [show (mm_i (llM M n l) 108 (upd ((llM M n l).1 108) 38 1)).1 108 38 = 1 from by rw [mm_i1]; rfl]
      refine ⟨fun z => absurd z (by decide), fun _ => ?_⟩
      conv => whnf
      rw [eM]
      exact ⟨trivial, hP⟩
    refine ⟨rfl, rfl, rfl, fun X hX => am_run hX 4 _ _ _ _ ?_⟩
    conv => whnf
    rw [e38]
    refine ⟨fun _ => go hX ⟨rfl, rfl⟩, fun c0 => ?_⟩
    have t0 : (ly3 l).2.2 = 0 := (nI_eq (b := 0) (by omega) (by decide)).mp (Decidable.byContradiction c0)
    refine am_run hX 4 _ _ _ _ ?_
    conv => whnf
    rw [e36]
    refine ⟨fun _ => go hX ⟨rfl, rfl⟩, fun c1 => ?_⟩
    have n3 : (ly3 l).1 ≠ 300 := fun e => c1 (by rw [e]; rfl)
    have ⟨x3, h60⟩ : x.1 = 3 ∧ (ly3 l).2.1 = 60 := by
      rcases c with c | c | c
      · omega
      · exact absurd c n3
      · exact c
    refine am_run hX 3 _ _ _ _ ?_
    conv => whnf
    rw [x3]
    refine ⟨fun z => absurd rfl z, fun _ => ?_⟩
    refine am_run hX 4 _ _ _ _ ?_
    conv => whnf
    rw [e37, h60]
    have g := go (P := am_q0 (llM M n (l ++ [x]))) hX ⟨rfl, rfl⟩
    rw [x3] at g
    exact ⟨fun z => absurd rfl z, fun _ => g⟩
  · have t0 : (ly3 l).2.2 = 0 := by
      have : (ly3 l).2.2 ≠ 1 := fun e => c (.inl e)
      omega
    have ⟨z1, z2⟩ := q4 t0
    have n3 : (ly3 l).1 ≠ 300 := fun e => c (.inr (.inl e))
    have e3 : ly3 (l ++ [x]) = ((ly3 l).1 + 1, (ly3 l).2.1 + (if x.1 = 3 then 1 else 0), 0) := by rw [ly3_s]; exact if_neg c
    have e0 : llM M n l = lyM M n (zg (l ++ [x])) l.length (ly3 l).2.1 := by
      unfold llM
      rw [t0, lyT_0, lyM_x (Y := zg (l ++ [x])) (fun j hj => (zg_l (by omega)).symm), z1]
    have e1 : llM M n (l ++ [x]) = lyM M n (zg (l ++ [x])) (l.length + 1) ((ly3 l).2.1 + (if x.1 = 3 then 1 else 0)) := by
      unfold llM
      rw [e3, z1]
      exact lyT_0 _ _ _ _ _
    have k3 : ∀ {v : Nat}, v < 16 → (nI v = 3 ↔ v = 3) := fun hv => nI_eq (b := 3) (by omega) (by decide)
    have lay := ct_layG (d := d) (M := M) (n := n) (k := l.length) (h := (ly3 l).2.1) (Z := zg (l ++ [x])) h6 hn (by omega) q2 (fun e => by
      rw [zg_r] at e
      have x3 := (k3 hx).mp e
      have : (ly3 l).2.1 ≠ 60 := fun z => c (.inr (.inr ⟨x3, z⟩))
      omega)
    rw [zg_r] at lay
    rw [e0, e1]
    by_cases x3 : x.1 = 3
    · rw [if_pos x3]
      rw [if_pos ((k3 hx).mpr x3)] at lay
      exact lay
    · rw [if_neg x3]
      rw [if_neg (fun z => x3 ((k3 hx).mp z))] at lay
      exact lay
end LST
