/-! circuit: the reference lays GATES, m, r, USES -/
section CSJ
variable {d : Nat} {M : mm_M}
set_option maxRecDepth 100000 in
theorem lo_G {P : am_Q} {X : am_X} {q lv wd h n tl k fw : Nat} {inv bk : Bool} {m : Nat × Nat} {cs ws : List Nat} {f : Nat → Nat} {O : List bk_X} (hX : am_K (d + 2) false nm_X12_layOne P X) (h6 : M.1 108 6 = nI n) (n20 : n < 20) (q4 : q < 401) (t4 : tl ≤ 400) (hl : lv ≤ 400) (hv : lvF M lv wd f) (n0 : M.1 120 q = nI k) (k8 : k ≤ 8) (hw : ws.length = (if k = 8 then 2 else 1)) (hk : ∀ w, w ∈ ws → w < wd) (fl : fw + (cs ++ ws).length ≤ tl) (f3 : ∀ j, j < (cs ++ ws).length → M.1 127 (fw + j) = nI ((cs ++ ws).getD j 0)) (hP : P (.inl none) (llM M n (O ++ [((if (inv != bk) = true then ikN k else k), f (ws.getD 0 0), (if k = 8 then f (ws.getD 1 0) else 0), h ||| mpM f (mskL cs), m.1, m.2)]))) : X 88 [some (aR 108), some (aI (nI q)), some (aI (nI lv)), some (aI (b01 inv)), some (aI (nI h)), some (aI (nI m.1)), some (aI (nI m.2)), some (aI (nI (h ||| mpM f (mskL cs)))), some (aI (nI (fw + cs.length))), some (aI (b01 (inv != bk))), none, none] [aI (nI k)] (llM M n O) := by
  have ix : vp_in (nI q) 401 := vp_in_nI q4 (by decide)
  have cl : (nI q).toNatClampNeg = q := nI_clamp (by omega)
  have z : ∀ k, k ≠ 108 → ¬ (112 ≤ k ∧ k ≤ 117) → (llM M n O).1 k = M.1 k := fun k a b => ll_r _ _ _ a b
  have lw : (cs ++ ws).length = cs.length + ws.length := List.length_append
  have gw : ∀ j, j < ws.length → (cs ++ ws).getD (cs.length + j) 0 = ws.getD j 0 := fun j hj => by
    rw [List.getD_eq_getElem?_getD, List.getElem?_append_right (by omega), Nat.add_sub_cancel_left, ← List.getD_eq_getElem?_getD]
  have l1 : 1 ≤ ws.length := by
    rw [hw]
    split <;> omega
  have t0 : M.1 127 (fw + cs.length) = nI (ws.getD 0 0) := by rw [f3 cs.length (by omega)]; exact congrArg nI (gw 0 (by omega))
  have t1 : 1 < ws.length → M.1 127 (fw + cs.length + 1) = nI (ws.getD 1 0) := fun y => by rw [Nat.add_assoc, f3 (cs.length + 1) (by omega), gw 1 y]
  generalize hA : h ||| mpM f (mskL cs) = all at *
  refine am_run hX 1 _ _ _ _ ?_
  conv => whnf
  refine ⟨fun y => absurd ((nI_eq (a := k) (b := 9) (by omega) (by decide)).mp y) (by omega), fun _ => ?_⟩
  conv => whnf
  refine ⟨fun y => absurd ((nI_eq (a := k) (b := 10) (by omega) (by decide)).mp y) (by omega), fun _ => ?_⟩
  conv => whnf
  refine ⟨fun y => absurd ((nI_eq (a := k) (b := 11) (by omega) (by decide)).mp y) (by omega), fun _ => ?_⟩
  conv => whnf
  refine ⟨fun y => absurd ((nI_eq (a := k) (b := 12) (by omega) (by decide)).mp y) (by omega), fun _ => ?_⟩
  conv => whnf
  refine ⟨fun y => absurd ((nI_eq (a := k) (b := 13) (by omega) (by decide)).mp y) (by omega), fun _ => ?_⟩
  conv => whnf
  refine ⟨fun y => absurd ((nI_eq (a := k) (b := 14) (by omega) (by decide)).mp y) (by omega), fun _ => ?_⟩
  conv => whnf
  refine ⟨fun y => absurd ((nI_eq (a := k) (b := 15) (by omega) (by decide)).mp y) (by omega), fun _ => ?_⟩
  have f440 : ∀ (kv w2 : Nat) (v11 : Int32), kv = (if (inv != bk) = true then ikN k else k) → w2 = (if k = 8 then f (ws.getD 1 0) else 0) → v11 = nI w2 → X 440 [some (aR 108), some (aI (nI q)), some (aI (nI lv)), some (aI (b01 inv)), some (aI (nI h)), some (aI (nI m.1)), some (aI (nI m.2)), some (aI (nI all)), some (aI (nI (fw + cs.length))), some (aI (b01 (inv != bk))), some (aI (nI (f (ws.getD 0 0)))), some (aI v11)] [aI (nI kv), aR 108] (llM M n O) := by
    intro kv w2 v11 e1 e2 e3
    rw [e3]
    refine am_run hX 6 _ _ _ _ ?_
    conv => whnf
    have kl : kv < 16 := by
      rw [e1]
      have := ik_16 k (by omega)
      split <;> omega
    refine am_c0 (ct_layL (d := d + 1) (x := (kv, f (ws.getD 0 0), w2, all, m.1, m.2)) h6 n20 kl) ?_
    refine am_run hX 1 _ _ _ _ ?_
    conv => whnf
    rw [e1, e2]
    exact ⟨trivial, hP⟩
  have f414 : ∀ (w2 : Nat) (v11 : Int32), w2 = (if k = 8 then f (ws.getD 1 0) else 0) → v11 = nI w2 → X 414 [some (aR 108), some (aI (nI q)), some (aI (nI lv)), some (aI (b01 inv)), some (aI (nI h)), some (aI (nI m.1)), some (aI (nI m.2)), some (aI (nI all)), some (aI (nI (fw + cs.length))), some (aI (b01 (inv != bk))), some (aI (nI (f (ws.getD 0 0)))), none] [aI v11] (llM M n O) := by
    intro w2 v11 e2 e3
    refine am_run hX 1 _ _ _ _ ?_
    conv => whnf
    refine am_run hX 3 _ _ _ _ ?_
    conv => whnf
    by_cases qb : (inv != bk) = true
    · refine ⟨fun y => absurd y (by rw [qb]; decide), fun _ => ?_⟩
      refine am_run hX 4 _ _ _ _ ?_
      conv => whnf
      refine ⟨ix, ?_⟩
      rw [cl, z 120 (by decide) (by decide), n0]
      refine am_run hX 1 _ _ _ _ ?_
      conv => whnf
      refine am_c1 (ct_bo (d := d + 1) (k := k) (by omega)) ?_
      refine am_run hX 1 _ _ _ _ ?_
      conv => whnf
      exact f440 (ikN k) w2 v11 (by rw [if_pos qb]) e2 e3
    · refine ⟨fun _ => ?_, fun y => absurd (by rw [Bool.eq_false_iff.mpr qb]; rfl) y⟩
      refine am_run hX 4 _ _ _ _ ?_
      conv => whnf
      refine ⟨ix, ?_⟩
      rw [cl, z 120 (by decide) (by decide), n0]
      exact f440 k w2 v11 (by rw [if_neg qb]) e2 e3
  refine am_run hX 6 _ _ _ _ ?_
  conv => whnf
  refine ⟨vp_in_nI (by show fw + cs.length < 401; omega) (by decide), ?_⟩
  rw [nI_clamp (n := fw + cs.length) (by omega), z 127 (by decide) (by decide), t0]
  refine am_run hX 1 _ _ _ _ ?_
  conv => whnf
  refine am_c1 (lv_mp (d := d + 1) hv (hk _ (gdd_m (by omega))) hl) ?_
  refine am_run hX 1 _ _ _ _ ?_
  conv => whnf
  refine am_run hX 4 _ _ _ _ ?_
  conv => whnf
  refine ⟨ix, ?_⟩
  rw [cl, z 120 (by decide) (by decide), n0]
  refine am_run hX 2 _ _ _ _ ?_
  conv => whnf
  by_cases q8 : k = 8
  · rw [if_pos q8] at hw
    refine ⟨fun y => absurd (by rw [q8]; rfl) y, fun _ => ?_⟩
    refine am_run hX 8 _ _ _ _ ?_
    conv => whnf
    rw [nI_1]
    refine ⟨vp_in_nI (by show fw + cs.length + 1 < 401; omega) (by decide), ?_⟩
    rw [nI_clamp (n := fw + cs.length + 1) (by omega), z 127 (by decide) (by decide), t1 (by omega)]
    refine am_run hX 1 _ _ _ _ ?_
    conv => whnf
    refine am_c1 (lv_mp (d := d + 1) hv (hk _ (gdd_m (by omega))) hl) ?_
    refine am_run hX 1 _ _ _ _ ?_
    conv => whnf
    exact f414 (f (ws.getD 1 0)) _ (by rw [if_pos q8]) rfl
  · refine ⟨fun _ => ?_, fun y => absurd (fun e => q8 ((nI_eq (a := k) (b := 8) (by omega) (by decide)).mp e)) y⟩
    refine am_run hX 1 _ _ _ _ ?_
    conv => whnf
    exact f414 0 0 (by rw [if_neg q8]) rfl
set_option maxRecDepth 100000 in
theorem lo_M {P : am_Q} {X : am_X} {q n tl k w b fw : Nat} {m : Nat × Nat} {O : List bk_X} {va : Int32} (hX : am_K (d + 2) false nm_X12_layOne P X) (h6 : M.1 108 6 = nI n) (n20 : n < 20) (q4 : q < 401) (t4 : tl ≤ 400) (k9 : (k = 9 ∧ b < 4) ∨ (k = 10 ∧ b = 0)) (n5 : M.1 125 q = nI b) (fl : fw + 1 ≤ tl) (f3 : M.1 127 fw = nI w) (hw : w < 8) (hP : P (.inl none) (llM M n (O ++ [(k, w, b, 0, m.1, m.2)]))) : X 88 [some (aR 108), some (aI (nI q)), some (aI (nI 0)), some (aI 0), some (aI (nI 0)), some (aI (nI m.1)), some (aI (nI m.2)), some (aI va), some (aI (nI fw)), some (aI 0), none, none] [aI (nI k)] (llM M n O) := by
  have ix : vp_in (nI q) 401 := vp_in_nI q4 (by decide)
  have cl : (nI q).toNatClampNeg = q := nI_clamp (by omega)
  have z : ∀ k, k ≠ 108 → ¬ (112 ≤ k ∧ k ≤ 117) → (llM M n O).1 k = M.1 k := fun k a b => ll_r _ _ _ a b
  have mp : am_M (d + 2) false nm_X12_mapped [aR 108, aI (nI 0), aI (nI w)] (llM M n O) (am_q1 (aI (nI w)) (llM M n O)) := ct_mp (d := d + 1) (fun _ => rfl) (fun y => absurd rfl y) (by omega)
  refine am_run hX 1 _ _ _ _ ?_
  conv => whnf
  rcases k9 with ⟨k9, b4⟩ | ⟨k9, b0⟩
  · rw [k9]
    rw [k9] at hP
    refine ⟨fun _ => ?_, fun y => absurd rfl y⟩
    refine am_run hX 8 _ _ _ _ ?_
    conv => whnf
    refine ⟨vp_in_nI (by show fw < 401; omega) (by decide), ?_⟩
    rw [nI_clamp (n := fw) (by omega), z 127 (by decide) (by decide), f3]
    refine am_run hX 1 _ _ _ _ ?_
    conv => whnf
    refine am_c1 mp ?_
    refine am_run hX 4 _ _ _ _ ?_
    conv => whnf
    refine ⟨ix, ?_⟩
    rw [cl, z 125 (by decide) (by decide), n5]
    refine am_run hX 4 _ _ _ _ ?_
    conv => whnf
    refine am_c0 (ct_layL (d := d + 1) (x := (9, w, b, 0, m.1, m.2)) h6 n20 (by show 9 < 16; decide)) ?_
    refine am_run hX 2 _ _ _ _ ?_
    conv => whnf
    exact ⟨trivial, hP⟩
  · rw [k9]
    rw [k9, b0] at hP
    refine ⟨fun y => absurd y (by decide), fun _ => ?_⟩
    conv => whnf
    refine ⟨fun _ => ?_, fun y => absurd rfl y⟩
    refine am_run hX 8 _ _ _ _ ?_
    conv => whnf
    refine ⟨vp_in_nI (by show fw < 401; omega) (by decide), ?_⟩
    rw [nI_clamp (n := fw) (by omega), z 127 (by decide) (by decide), f3]
    refine am_run hX 1 _ _ _ _ ?_
    conv => whnf
    refine am_c1 mp ?_
    refine am_run hX 5 _ _ _ _ ?_
    conv => whnf
    refine am_c0 (ct_layL (d := d + 1) (x := (10, w, 0, 0, m.1, m.2)) h6 n20 (by show 10 < 16; decide)) ?_
    refine am_run hX 2 _ _ _ _ ?_
    conv => whnf
    exact ⟨trivial, hP⟩
/-- the next level's WIRES, the first i of them -/
def umM (M : mm_M) (lv : Nat) (f : Nat → Nat) (ws : List Nat) (i : Nat) : mm_M := mm_i M 131 (fun a => if 4 * (lv + 1) ≤ a ∧ a < 4 * (lv + 1) + i then nI (f (ws.getD (a - 4 * (lv + 1)) 0)) else M.1 131 a)
theorem um_0 (M : mm_M) (lv : Nat) (f : Nat → Nat) (ws : List Nat) : umM M lv f ws 0 = M := by
  unfold umM
  have e : (fun a => if 4 * (lv + 1) ≤ a ∧ a < 4 * (lv + 1) + 0 then nI (f (ws.getD (a - 4 * (lv + 1)) 0)) else M.1 131 a) = M.1 131 := by
    funext a
    rw [if_neg (by omega)]
  rw [e, mm_iz]
theorem um_s (M : mm_M) (lv : Nat) (f : Nat → Nat) (ws : List Nat) (i : Nat) : mm_i (umM M lv f ws i) 131 (upd ((umM M lv f ws i).1 131) (4 * (lv + 1) + i) (nI (f (ws.getD i 0)))) = umM M lv f ws (i + 1) := by
  unfold umM
  rw [mm_i1, mm_ii]
  congr 1
  funext a
  unfold upd
  by_cases q : a = 4 * (lv + 1) + i
  · rw [if_pos q, if_pos (by omega)]
    congr 3
    omega
  · rw [if_neg q]
    dsimp only
    by_cases r : 4 * (lv + 1) ≤ a ∧ a < 4 * (lv + 1) + i
    · rw [if_pos r, if_pos (by omega)]
    · rw [if_neg r, if_neg (by omega)]
theorem um_F (M : mm_M) (lv : Nat) (f : Nat → Nat) (ws : List Nat) (i : Nat) : mpF lv M (umM M lv f ws i) := by
  refine ⟨fun q hq => mm_ne _ _ _ _ hq, rfl, fun j hj => ?_⟩
  unfold umM
  rw [mm_i1]
  exact if_neg (by omega)
theorem um_at (M : mm_M) (lv : Nat) (f : Nat → Nat) (ws : List Nat) {i K : Nat} (h : i < K) : (umM M lv f ws K).1 131 (4 * (lv + 1) + i) = nI (f (ws.getD i 0)) := by
  unfold umM
  rw [mm_i1]
  show (if 4 * (lv + 1) ≤ 4 * (lv + 1) + i ∧ 4 * (lv + 1) + i < 4 * (lv + 1) + K then nI (f (ws.getD (4 * (lv + 1) + i - 4 * (lv + 1)) 0)) else _) = _
  rw [if_pos (by omega), Nat.add_sub_cancel_left]
set_option maxRecDepth 100000 in
/-- a USE's WIRES -/
theorem lo_u {P : am_Q} {X : am_X} {q lv wd n tl fw : Nat} {cs ws : List Nat} {f : Nat → Nat} {O : List bk_X} {vi vh m1 m0 va v9 : Int32} (hX : am_K (d + 1) false nm_X12_layOne P X) (q4 : q < 401) (t4 : tl ≤ 400) (hl : lv ≤ 300) (hv : lvF M lv wd f) (w4 : ws.length ≤ 4) (hk : ∀ w, w ∈ ws → w < wd) (n2 : M.1 122 q = nI (cs ++ ws).length) (n3 : M.1 123 q = nI cs.length) (fl : fw + (cs ++ ws).length ≤ tl) (f3 : ∀ j, j < (cs ++ ws).length → M.1 127 (fw + j) = nI ((cs ++ ws).getD j 0)) (hK : ∀ v, X 187 [some (aR 108), some (aI (nI q)), some (aI (nI lv)), some (aI vi), some (aI vh), some (aI m1), some (aI m0), some (aI va), some (aI (nI (fw + cs.length))), some (aI v9), some (aI v), none] [] (llM (umM M lv f ws ws.length) n O)) : ∀ (m i : Nat), i + m = ws.length → X 135 [some (aR 108), some (aI (nI q)), some (aI (nI lv)), some (aI vi), some (aI vh), some (aI m1), some (aI m0), some (aI va), some (aI (nI (fw + cs.length))), some (aI v9), some (aI (nI i)), none] [] (llM (umM M lv f ws i) n O) := by
  have ix : vp_in (nI q) 401 := vp_in_nI q4 (by decide)
  have cl : (nI q).toNatClampNeg = q := nI_clamp (by omega)
  have z : ∀ i k, k ≠ 108 → ¬ (112 ≤ k ∧ k ≤ 117) → k ≠ 131 → (llM (umM M lv f ws i) n O).1 k = M.1 k := fun i k a b c => by rw [ll_r _ _ _ a b]; exact mm_ne _ _ _ _ c
  have lw : (cs ++ ws).length = cs.length + ws.length := List.length_append
  have gw : ∀ j, j < ws.length → (cs ++ ws).getD (cs.length + j) 0 = ws.getD j 0 := fun j hj => by
    rw [List.getD_eq_getElem?_getD, List.getElem?_append_right (by omega), Nat.add_sub_cancel_left, ← List.getD_eq_getElem?_getD]
  intro m
  induction m with
  | zero =>
    intro i hi
    obtain rfl : i = ws.length := by omega
    refine am_run hX 5 _ _ _ _ ?_
    conv => whnf
    refine ⟨ix, ?_⟩
    rw [cl, z _ 122 (by decide) (by decide) (by decide), n2]
    refine am_run hX 4 _ _ _ _ ?_
    conv => whnf
    refine ⟨ix, ?_⟩
    rw [cl, z _ 123 (by decide) (by decide) (by decide), n3]
    refine am_run hX 2 _ _ _ _ ?_
    conv => whnf
    rw [nI_sub (by omega)]
    exact ⟨fun _ => hK _, fun y => absurd (nI_le (by omega) (by omega)) y⟩
  | succ m ih =>
    intro i hi
    refine am_run hX 5 _ _ _ _ ?_
    conv => whnf
    refine ⟨ix, ?_⟩
    rw [cl, z _ 122 (by decide) (by decide) (by decide), n2]
    refine am_run hX 4 _ _ _ _ ?_
    conv => whnf
    refine ⟨ix, ?_⟩
    rw [cl, z _ 123 (by decide) (by decide) (by decide), n3]
    refine am_run hX 2 _ _ _ _ ?_
    conv => whnf
    rw [nI_sub (by omega)]
    refine ⟨fun y => absurd y (nI_ge (by omega) (by omega)), fun _ => ?_⟩
    have ti : M.1 127 (fw + cs.length + i) = nI (ws.getD i 0) := by rw [Nat.add_assoc, f3 (cs.length + i) (by omega), gw i (by omega)]
    refine am_run hX 17 _ _ _ _ ?_
    conv => whnf
    rw [nI_add]
    refine ⟨vp_in_nI (by show fw + cs.length + i < 401; omega) (by decide), ?_⟩
    rw [nI_clamp (n := fw + cs.length + i) (by omega), z _ 127 (by decide) (by decide) (by decide), ti]
    refine am_run hX 1 _ _ _ _ ?_
    conv => whnf
    refine am_c1 (lv_mp (d := d) (lvF_m (um_F M lv f ws i) hv) (hk _ (gdd_m (by omega))) (by omega)) ?_
    refine am_run hX 1 _ _ _ _ ?_
    conv => whnf
    rw [nI_1, show (4 : Int32) * nI (lv + 1) + nI i = nI (4 * (lv + 1) + i) from by rw [show (4 : Int32) = nI 4 from rfl, nI_mul, nI_add]]
    refine ⟨vp_in_nI (by show 4 * (lv + 1) + i < 1640; omega) (by decide), ?_⟩
    rw [nI_clamp (n := 4 * (lv + 1) + i) (by omega), ll_r _ _ _ (by decide) (by decide), ll_o _ _ _ _ (by decide) (by decide), um_s]
    refine am_run hX 2 _ _ _ _ ?_
    conv => whnf
    rw [nI_1]
    exact ih (i + 1) (by omega)
end CSJ
