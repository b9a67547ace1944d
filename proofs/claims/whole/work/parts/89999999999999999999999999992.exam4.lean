/-! code: the reference examines: all PAULIS are counted -/
/-- which count for the distance -/
def cntB (n s : Nat) (sy : Nat → Nat) (re : Nat → Int32) (v : Nat) : Bool := if s < n then decide (¬ re v = 0 ∧ sy v = 0) else decide (re v = 0 ∧ 0 < wN 8 v)
def dsM (n s : Nat) (sy : Nat → Nat) (re : Nat → Int32) : Nat → Nat
  | 0 => 99
  | v + 1 => if cntB n s sy re v = true ∧ wN 8 v < dsM n s sy re v then wN 8 v else dsM n s sy re v
theorem dsM_l (n s : Nat) (sy : Nat → Nat) (re : Nat → Int32) : ∀ v, dsM n s sy re v < 100
  | 0 => by show 99 < 100; decide
  | v + 1 => by
    have h1 := dsM_l n s sy re v
    have h2 := wN_le 8 v
    show (if cntB n s sy re v = true ∧ wN 8 v < dsM n s sy re v then wN 8 v else dsM n s sy re v) < 100
    split <;> omega
/-- what a PAULI is, as a number -/
def srt (sy : Nat → Nat) (re : Nat → Int32) (v : Nat) : Nat := if re v = 0 then 2 else if sy v = 0 then 1 else 0
section EXD
variable {d : Nat} {M : mm_M} {n s : Nat} {x z : Nat → Nat} {re : Nat → Int32}
def exJ (M N : mm_M) (n s : Nat) (sy : Nat → Nat) (re : Nat → Int32) (v : Nat) : Prop := exF M N ∧ N.1 181 = M.1 181 ∧ (∀ w, w < 9 → N.1 182 w = nI (kN (pA re w) v)) ∧ (∀ w, w < 9 → N.1 183 w = nI (kN (pB sy w) v)) ∧ (∀ w, w < 9 → N.1 184 w = 0) ∧ (∀ u, u < 256 → N.1 185 u = oN (lsCd sy v u)) ∧ N.1 108 124 = nI (dsM n s sy re v)
set_option maxRecDepth 100000 in
theorem ex_5 {P : am_Q} {X : am_X} (hX : am_K (d + 3) false nm_X12_examine P X) (hR : exR M n s x z) (h181 : ∀ u, u < 4 ^ n → M.1 181 u = nI (srt (cdSy x z n s) re u)) (hcz : ∀ u, u < 4 ^ n → re u = 0 → cdSy x z n s u = 0) (hk : ∀ N l3 l4 l5, exJ M N n s (cdSy x z n s) re (4 ^ n) → X 391 [some (aR 108), some (aI (nI (4 ^ n))), some (aI (nI (4 ^ n))), l3, l4, l5] [] N) : ∀ (m v : Nat) (N : mm_M) (l3 l4 l5 : Option am_V), v + m = 4 ^ n → exJ M N n s (cdSy x z n s) re v → X 211 [some (aR 108), some (aI (nI (4 ^ n))), some (aI (nI v)), l3, l4, l5] [] N := by
  have h4 : 4 ^ n ≤ 65536 := Nat.pow_le_pow_right (n := 4) (j := 8) (by decide) hR.2.2.2.1
  have s8 := hR.2.2.2.2.1
  have n8 := hR.2.2.2.1
  intro m
  induction m with
  | zero =>
    intro v N l3 l4 l5 ev h
    obtain rfl : v = 4 ^ n := by omega
    refine am_run hX 3 _ _ _ _ ?_
    conv => whnf
    exact ⟨fun _ => hk N _ _ _ h, fun c => absurd (nI_le (Nat.le_refl _) (by omega)) c⟩
  | succ m ih =>
    intro v N l3 l4 l5 ev h
    obtain ⟨hF, j1, j2, j3, j4, j5, j6⟩ := h
    have hN := exR_f hR hF
    have hv4 : v < 4 ^ n := by omega
    have hw8 := wN_le 8 v
    have hsl : cdSy x z n s v < 2 ^ s := fsY_l _ _ _ _ s
    have hy := pw2 s8 hsl
    have ht : N.1 181 v = nI (srt (cdSy x z n s) re v) := by rw [j1]; exact h181 v hv4
    have t3 : srt (cdSy x z n s) re v < 3 := by
      unfold srt
      split
      · decide
      · split <;> decide
    have t2 : srt (cdSy x z n s) re v = 2 ↔ re v = 0 := by
      unfold srt
      by_cases c : re v = 0
      · rw [if_pos c]
        exact ⟨fun _ => c, fun _ => rfl⟩
      · rw [if_neg c]
        refine ⟨fun q => ?_, fun q => absurd q c⟩
        split at q <;> cases q
    have t0 : 0 < srt (cdSy x z n s) re v ↔ cdSy x z n s v = 0 := by
      unfold srt
      by_cases c : re v = 0
      · rw [if_pos c]
        exact ⟨fun _ => hcz v hv4 c, fun _ => by decide⟩
      · rw [if_neg c]
        by_cases e : cdSy x z n s v = 0
        · rw [if_pos e]
          exact ⟨fun _ => e, fun _ => by decide⟩
        · rw [if_neg e]
          exact ⟨fun q => absurd q (by decide), fun q => absurd q e⟩
    have t1 : srt (cdSy x z n s) re v = 1 ↔ ¬ re v = 0 ∧ cdSy x z n s v = 0 := by
      constructor
      · intro q
        exact ⟨fun e => (by rw [t2.mpr e] at q; cases q), t0.mp (by omega)⟩
      · intro q
        have a := t0.mpr q.2
        have b : srt (cdSy x z n s) re v ≠ 2 := fun e => q.1 (t2.mp e)
        omega
    refine am_run hX 11 _ _ _ _ ?_
    conv => whnf
    refine ⟨fun c => absurd c (nI_ge (by omega) (by omega)), fun _ => ?_⟩
    conv => whnf
    refine am_c1 (ct_wRf (d := d + 2) hN.1 n8 hv4) ?_
    conv => whnf
    refine am_c1 (ct_syE (d := d) hN (by omega)) ?_
    conv => whnf
    refine exB (d := d) (t := srt (cdSy x z n s) re v) (a := 4 ^ n) (v := v) (w := wN 8 v) (y := cdSy x z n s v) hX (by omega) (by omega) ht t3 ?_
    generalize hN1 : mm_i N 182 (upd (N.1 182) (wN 8 v) (N.1 182 (wN 8 v) + nI (if srt (cdSy x z n s) re v = 2 then 1 else 0))) = N1
    have a181 : N1.1 181 = N.1 181 := by rw [← hN1]; exact mm_ne _ _ _ _ (by decide)
    refine ex_C (d := d) (t := srt (cdSy x z n s) re v) hX (by omega) (by omega) (by rw [a181]; exact ht) t3 ?_
    generalize hN2 : mm_i N1 183 (upd (N1.1 183) (wN 8 v) (N1.1 183 (wN 8 v) + nI (if 0 < srt (cdSy x z n s) re v then 1 else 0))) = N2
    have b181 : N2.1 181 = N.1 181 := by rw [← hN2, mm_ne _ _ _ _ (by decide)]; exact a181
    have b108 : N2.1 108 = N.1 108 := by rw [← hN2, mm_ne _ _ _ _ (by decide), ← hN1, mm_ne _ _ _ _ (by decide)]
    have b182 : N2.1 182 = upd (N.1 182) (wN 8 v) (N.1 182 (wN 8 v) + nI (if srt (cdSy x z n s) re v = 2 then 1 else 0)) := by rw [← hN2, mm_ne _ _ _ _ (by decide), ← hN1, mm_i1]
    have b183 : N2.1 183 = upd (N.1 183) (wN 8 v) (N.1 183 (wN 8 v) + nI (if 0 < srt (cdSy x z n s) re v then 1 else 0)) := by
      rw [← hN2, mm_i1]
      have : N1.1 183 = N.1 183 := by rw [← hN1]; exact mm_ne _ _ _ _ (by decide)
      rw [this]
    have b184 : N2.1 184 = N.1 184 := by rw [← hN2, mm_ne _ _ _ _ (by decide), ← hN1, mm_ne _ _ _ _ (by decide)]
    have b185 : N2.1 185 = N.1 185 := by rw [← hN2, mm_ne _ _ _ _ (by decide), ← hN1, mm_ne _ _ _ _ (by decide)]
    have bF : exF M N2 := by
      rw [← hN2, ← hN1]
      exact exF_t (exF_t hF (exF_i (by decide))) (exF_i (by decide))
    refine ex_D (d := d) (n := n) (s := s) (t := srt (cdSy x z n s) re v) hX n8 s8 (by rw [b108]; exact hN.1) (by rw [b108]; exact hN.2.1) (by omega) (by omega) (by rw [b181]; exact ht) t3 ?_
    refine ex_E (d := d) (D := dsM n s (cdSy x z n s) re v) hX ?_ (by omega) (dsM_l _ _ _ _ v) (by rw [b108]; exact j6) ?_
    · split <;> split <;> decide
    generalize hN3 : mm_i N2 108 (upd (N2.1 108) 124 (nI (if (if s < n then (if srt (cdSy x z n s) re v = 1 then 1 else 0) else (if srt (cdSy x z n s) re v = 2 ∧ 0 < wN 8 v then 1 else 0)) = 1 ∧ wN 8 v < dsM n s (cdSy x z n s) re v then wN 8 v else dsM n s (cdSy x z n s) re v))) = N3
    have hcn : (if s < n then (if srt (cdSy x z n s) re v = 1 then 1 else 0) else (if srt (cdSy x z n s) re v = 2 ∧ 0 < wN 8 v then 1 else 0)) = 1 ↔ cntB n s (cdSy x z n s) re v = true := by
      unfold cntB
      by_cases c : s < n
      · rw [if_pos c, if_pos c, decide_eq_true_eq, ← t1]
        split
        · rename_i e; exact ⟨fun _ => e, fun _ => rfl⟩
        · rename_i e; exact ⟨fun q => (by cases q), fun q => absurd q e⟩
      · rw [if_neg c, if_neg c, decide_eq_true_eq, ← t2]
        split
        · rename_i e; exact ⟨fun _ => e, fun _ => rfl⟩
        · rename_i e; exact ⟨fun q => (by cases q), fun q => absurd q e⟩
    have c124 : N3.1 108 124 = nI (dsM n s (cdSy x z n s) re (v + 1)) := by
      rw [← hN3]
      show nI (if _ ∧ wN 8 v < dsM n s (cdSy x z n s) re v then wN 8 v else dsM n s (cdSy x z n s) re v) = nI (if cntB n s (cdSy x z n s) re v = true ∧ wN 8 v < dsM n s (cdSy x z n s) re v then wN 8 v else dsM n s (cdSy x z n s) re v)
      congr 1
      by_cases q : wN 8 v < dsM n s (cdSy x z n s) re v
      · by_cases e : cntB n s (cdSy x z n s) re v = true
        · rw [if_pos ⟨hcn.mpr e, q⟩, if_pos ⟨e, q⟩]
        · rw [if_neg (fun y => e (hcn.mp y.1)), if_neg (fun y => e y.1)]
      · rw [if_neg (fun y => q y.2), if_neg (fun y => q y.2)]
    have cne : ∀ k, k ≠ 108 → N3.1 k = N2.1 k := fun k hk => by rw [← hN3]; exact mm_ne _ _ _ _ hk
    have cF : exF M N3 := by
      rw [← hN3]
      refine exF_t bF ⟨fun k a b => mm_ne _ _ _ _ a, rfl, fun y hy => ?_⟩
      rw [mm_i1]
      exact if_neg hy
    have c110 : N3.1 108 110 = nI n := (cF.2.2 110 (by decide)).trans hR.1
    refine ex_F (d := d) (n := n) (o := lsCd (cdSy x z n s) v (cdSy x z n s v)) hX n8 c110 (by omega) rfl hy (by rw [cne 185 (by decide), b185]; exact j5 _ hy) (fun u hu => by have := (ls_s v hu).1; omega) ?_
    generalize hN4 : (if lsQ (lsCd (cdSy x z n s) v (cdSy x z n s v)) v = true then mm_i N3 185 (upd (N3.1 185) (cdSy x z n s v) (nI v)) else N3) = N4
    have dne : ∀ k, k ≠ 185 → N4.1 k = N3.1 k := fun k hk => by
      rw [← hN4]
      split
      · exact mm_ne _ _ _ _ hk
      · rfl
    have dF : exF M N4 := by
      rw [← hN4]
      split
      · exact exF_t cF (exF_i (by decide))
      · exact cF
    refine ih (v + 1) N4 _ _ _ (by omega) ⟨dF, ?_, ?_, ?_, ?_, ?_, ?_⟩
    · rw [dne 181 (by decide), cne 181 (by decide), b181]; exact j1
    · rw [dne 182 (by decide), cne 182 (by decide), b182]
      refine up_k (p := pA re) j2 ?_ (fun u hu => ?_) (by omega)
      · unfold pA
        by_cases e : re v = 0
        · rw [if_pos (t2.mpr e), if_pos (decide_eq_true ⟨rfl, e⟩)]
        · rw [if_neg (fun q => e (t2.mp q)), if_neg (fun q => e (of_decide_eq_true q).2)]
      · exact decide_eq_false (fun q => hu q.1.symm)
    · rw [dne 183 (by decide), cne 183 (by decide), b183]
      refine up_k (p := pB (cdSy x z n s)) j3 ?_ (fun u hu => ?_) (by omega)
      · unfold pB
        by_cases e : cdSy x z n s v = 0
        · rw [if_pos (t0.mpr e), if_pos (decide_eq_true ⟨rfl, e⟩)]
        · rw [if_neg (fun q => e (t0.mp q)), if_neg (fun q => e (of_decide_eq_true q).2)]
      · exact decide_eq_false (fun q => hu q.1.symm)
    · rw [dne 184 (by decide), cne 184 (by decide), b184]; exact j4
    · intro u hu
      have e185 : N3.1 185 = N.1 185 := by rw [cne 185 (by decide), b185]
      show N4.1 185 u = oN (if cdSy x z n s v = u ∧ lsQ (lsCd (cdSy x z n s) v u) v = true then some v else lsCd (cdSy x z n s) v u)
      rw [← hN4]
      by_cases c : lsQ (lsCd (cdSy x z n s) v (cdSy x z n s v)) v = true
      · rw [if_pos c, mm_i1, e185]
        unfold upd
        by_cases e : u = cdSy x z n s v
        · rw [if_pos e, e, if_pos ⟨rfl, c⟩]
          rfl
        · rw [if_neg e, if_neg (fun q => e q.1.symm)]
          exact j5 u hu
      · rw [if_neg c, e185]
        by_cases e : cdSy x z n s v = u
        · rw [← e, if_neg (fun q => c q.2)]
          exact j5 _ (by rw [e]; exact hu)
        · rw [if_neg (fun q => e q.1)]
          exact j5 u hu
    · rw [dne 108 (by decide)]; exact c124
end EXD
