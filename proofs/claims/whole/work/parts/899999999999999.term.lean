/-! THE PAIR term -/
section TRM
variable {d : Nat} {M : mm_M} {a b : Nat} {A B : SU}
/-- one more TERM at the end of a row -/
def stMx (M : mm_M) (x ph s : Nat) (k p q : Int32) : mm_M := mm_i (mm_i (mm_i (mm_i (mm_i M (85 + ph) (upd (M.1 (85 + ph)) s k)) (89 + ph) (upd (M.1 (89 + ph)) s p)) (93 + ph) (upd (M.1 (93 + ph)) s q)) 96 (upd (M.1 96) x (nI (s + 1)))) 97 (upd (M.1 97) x 0)
set_option maxRecDepth 100000 in
theorem ct_setT {x ph s : Nat} {k p q : Int32} (hx : x = 0 ∧ ph = 0 ∨ x = 0 ∧ ph = 1 ∨ x = 2 ∧ ph = 2) (hs : s < 149) (e1 : M.1 84 x = nI ph) (e2 : M.1 88 x = nI ph) (e3 : M.1 92 x = nI ph) (h96 : M.1 96 x = nI s) : am_M (d + 1) false nm_X9_setTerm [aR 83, aI (nI x), aI k, aI p, aI q] M (am_q0 (stMx M x ph s k p q)) := by
  have hin : vp_in (nI x) 3 := vp_in_nI (by omega) (by decide)
  have hi2 : vp_in (nI s) 150 := vp_in_nI (by omega) (by decide)
  refine ⟨rfl, rfl, rfl, fun X hX => am_run hX 60 _ _ _ _ ?_⟩
  conv => whnf
  refine ⟨hin, ?_⟩
  conv => whnf
  rw [nI_clamp (n := x) (by omega), h96, show (149 : Int32) = nI 149 from rfl, nI_min (by omega) (by decide), show min s 149 = s by omega]
  rcases hx with ⟨rfl, rfl⟩ | ⟨rfl, rfl⟩ | ⟨rfl, rfl⟩
  all_goals (
    rw [e1]
    refine ⟨⟨hin, by decide⟩, ?_⟩
    conv => whnf
    refine ⟨hi2, ?_⟩
    conv => whnf
    rw [nI_clamp (n := s) (by omega)]
    first
    | rw [show ∀ B, (mm_i M (84 + 1 + (nI 0).toNatClampNeg) B).1 88 (nI 0).toNatClampNeg = nI _ from fun _ => e2]
    | rw [show ∀ B, (mm_i M (84 + 1 + (nI 1).toNatClampNeg) B).1 88 (nI 0).toNatClampNeg = nI _ from fun _ => e2]
    | rw [show ∀ B, (mm_i M (84 + 1 + (nI 2).toNatClampNeg) B).1 88 (nI 2).toNatClampNeg = nI _ from fun _ => e2]
    refine ⟨⟨hin, by decide⟩, ?_⟩
    conv => whnf
    refine ⟨hi2, ?_⟩
    conv => whnf
    rw [nI_clamp (n := s) (by omega)]
    first
    | rw [show ∀ B C, (mm_i (mm_i M (84 + 1 + (nI 0).toNatClampNeg) B) (88 + 1 + (nI 0).toNatClampNeg) C).1 92 (nI 0).toNatClampNeg = nI _ from fun _ _ => e3]
    | rw [show ∀ B C, (mm_i (mm_i M (84 + 1 + (nI 1).toNatClampNeg) B) (88 + 1 + (nI 1).toNatClampNeg) C).1 92 (nI 0).toNatClampNeg = nI _ from fun _ _ => e3]
    | rw [show ∀ B C, (mm_i (mm_i M (84 + 1 + (nI 2).toNatClampNeg) B) (88 + 1 + (nI 2).toNatClampNeg) C).1 92 (nI 2).toNatClampNeg = nI _ from fun _ _ => e3]
    refine ⟨⟨hin, by decide⟩, ?_⟩
    conv => whnf
    refine ⟨hi2, ?_⟩
    conv => whnf
    refine ⟨hin, ?_⟩
    conv => whnf
    refine ⟨hin, ?_⟩
    conv => whnf
    rw [nI_clamp (n := s) (by omega), nI_1]
    exact ⟨trivial, rfl, rfl⟩)
/-- the third row is emptied -/
def eM2 (M : mm_M) : mm_M := mm_i (mm_i M 96 (upd (M.1 96) 2 0)) 97 (upd (M.1 97) 2 0)
/-- only the third row is changed -/
def f2M (M N : mm_M) : Prop := (∀ k, k ≠ 87 → k ≠ 91 → k ≠ 95 → k ≠ 96 → k ≠ 97 → N.1 k = M.1 k) ∧ N.2 = M.2 ∧ ∀ j, j ≠ 2 → N.1 96 j = M.1 96 j ∧ N.1 97 j = M.1 97 j
theorem f2M_t {N K : mm_M} (h : f2M M N) (h' : f2M N K) : f2M M K := ⟨fun k a b c d e => (h'.1 k a b c d e).trans (h.1 k a b c d e), h'.2.1.trans h.2.1, fun j hj => ⟨(h'.2.2 j hj).1.trans (h.2.2 j hj).1, (h'.2.2 j hj).2.trans (h.2.2 j hj).2⟩⟩
theorem f2M_e : f2M M (eM2 M) := by
  refine ⟨fun k _ _ _ d e => ?_, rfl, fun j hj => ?_⟩
  · simp [eM2, mm_i, d, e]
  · show upd (M.1 96) 2 0 j = M.1 96 j ∧ upd (M.1 97) 2 0 j = M.1 97 j
    unfold upd
    rw [if_neg hj, if_neg hj]
    exact ⟨rfl, rfl⟩
theorem f2M_s {s : Nat} {k p q : Int32} : f2M M (stMx M 2 2 s k p q) := by
  refine ⟨fun k a b c d e => ?_, rfl, fun j hj => ?_⟩
  · simp [stMx, mm_i, a, b, c, d, e]
  · show upd (M.1 96) 2 (nI (s + 1)) j = M.1 96 j ∧ upd (M.1 97) 2 0 j = M.1 97 j
    unfold upd
    rw [if_neg hj, if_neg hj]
    exact ⟨rfl, rfl⟩
section F2M
variable {N : mm_M}
theorem f2M_F (h : f2M M N) : csF M N := ⟨fun k a => h.1 k (by omega) (by omega) (by omega) (by omega) (by omega), fun k _ => by rw [h.2.1], fun j _ => by rw [h.1 83 (by decide) (by decide) (by decide) (by decide) (by decide)]⟩
theorem f2M_G (h : f2M M N) : csG M N := ⟨h.1 84 (by decide) (by decide) (by decide) (by decide) (by decide), h.1 88 (by decide) (by decide) (by decide) (by decide) (by decide), h.1 92 (by decide) (by decide) (by decide) (by decide) (by decide), by rw [h.2.1], by rw [h.2.1]⟩
theorem f2M_c {x : Nat} {S : SU} (h : f2M M N) (ha : a ≤ 1) (hx : x ≠ 2) (hS : csS M a x S) : csS N a x S := by
  unfold csS at *
  rw [(h.2.2 x hx).1, (h.2.2 x hx).2, h.1 (85 + a) (by omega) (by omega) (by omega) (by omega) (by omega), h.1 (89 + a) (by omega) (by omega) (by omega) (by omega) (by omega), h.1 (93 + a) (by omega) (by omega) (by omega) (by omega) (by omega)]
  exact hS
theorem sm_rG (h : csG M N) (hr : sm_r M a b) : sm_r N a b := by
  unfold sm_r at *
  rw [h.1, h.2.1, h.2.2.1]
  exact hr
theorem csG_t {K : mm_M} (h : csG M N) (h' : csG N K) : csG M K := ⟨h'.1.trans h.1, h'.2.1.trans h.2.1, h'.2.2.1.trans h.2.2.1, h'.2.2.2.1.trans h.2.2.2.1, h'.2.2.2.2.trans h.2.2.2.2⟩
end F2M
/-- what add leaves, of a SUM X added to A -/
def adE (M : mm_M) (a b : Nat) (sg : Int32) (A X : SU) : am_Q := fun r M' => csF M M' ∧ csG M M' ∧ (∀ B, csS M b 1 B → csS M' b 1 B) ∧ ((farC A X ∧ r = .inl (some (aI 0)) ∧ csS M' a 0 A) ∨ (¬ farC A X ∧ ∃ c κ, enX (suP (max A.2.1 X.2.1) sg A X) (suQ (max A.2.1 X.2.1) sg A X) c κ ∧ ((okN (suP (max A.2.1 X.2.1) sg A X) (suQ (max A.2.1 X.2.1) sg A X) (max A.2.1 X.2.1) c κ = true ∧ r = .inl (some (aI 1)) ∧ csS M' a 0 (newS (suP (max A.2.1 X.2.1) sg A X) (suQ (max A.2.1 X.2.1) sg A X) (max A.2.1 X.2.1) c κ)) ∨ (okN (suP (max A.2.1 X.2.1) sg A X) (suQ (max A.2.1 X.2.1) sg A X) (max A.2.1 X.2.1) c κ = false ∧ r = .inl (some (aI 0)) ∧ csS M' a 0 A))))
theorem ct_addE {xr xp : Nat} {X : SU} {sg : Int32} (hr : sm_r M a b) (hx : xr = 1 ∧ xp = b ∨ xr = 2 ∧ xp = 2) (h1 : csS M a 0 A) (h2 : csS M xp xr X) (oA : orS A) (oX : orS X) : am_M (d + 4) false nm_X9_add [aR 83, aI (nI xr), aI sg] M (adE M a b sg A X) := by
  refine am_wk (ct_addC (d := d) (sg := sg) hr hx h1 h2 oA oX) ?_
  rintro r M' (⟨k1, k2, rfl⟩ | ⟨k1, c, κ, k2, k3, k4, k5, k6⟩)
  · exact ⟨csF_r _, csG_r _, fun B h => h, Or.inl ⟨k1, k2, h1⟩⟩
  · refine ⟨k3, k4, k5, Or.inr ⟨k1, c, κ, k2, ?_⟩⟩
    rcases k6 with ⟨e1, e2, e3⟩ | ⟨e1, e2, e3⟩
    · exact Or.inl ⟨e1, e2, e3⟩
    · exact Or.inr ⟨e1, e2, e3 A h1⟩
/-- a TERM alone -/
def oneT (k : Nat) (p q : Int32) : SU := (1, 0, fun _ => k, fun _ => p, fun _ => q)
def noT : SU := (0, 0, fun _ => 0, fun _ => 0, fun _ => 0)
end TRM
