/-! code: the class reads, checks and takes over -/
/-- a row's x's and z's are below 256 -/
theorem cpG_8 {s : cpS} (g : cpG s) {j : Nat} (hj : j < s.2.1 ∨ j = s.2.1 ∧ 0 < s.2.2.1) : s.2.2.2.1 j < 256 ∧ s.2.2.2.2.1 j < 256 ∧ s.2.2.2.2.2 j < 400 := by
  obtain ⟨g1, g2, g3, g4, g5⟩ := g
  obtain ⟨a, b, c⟩ := g5 j hj
  have h8 : 2 ^ (if j = s.2.1 then s.2.2.1 else s.1) ≤ 2 ^ 8 := by
    refine Nat.pow_le_pow_right (by decide) ?_
    split
    · exact g2
    · exact g3
  exact ⟨by omega, by omega, c⟩
theorem cpF_0 {s : cpS} (g : cpG s) (h : cpF s = true) : 0 < s.2.2.1 ∧ (0 < s.2.1 → s.2.2.1 = s.1) := by
  unfold cpF at h
  by_cases r0 : s.2.1 = 0
  · rw [if_pos r0] at h
    exact ⟨of_decide_eq_true h, fun y => by omega⟩
  · rw [if_neg r0] at h
    have e := of_decide_eq_true h
    have := g.2.2.2.1 (by omega)
    exact ⟨by omega, fun _ => e⟩
theorem cpE_i {T : Nat → Nat} {t : Nat} {s : cpS} (h : cpE T t = .inl s) : cpR T t = .inl s ∧ cpF s = true := by
  unfold cpE at h
  cases hr : cpR T t with
  | inr p => rw [hr] at h; cases h
  | inl s' =>
    rw [hr] at h
    simp only at h
    by_cases hf : cpF s' = true
    · rw [if_pos hf] at h
      cases h
      exact ⟨rfl, hf⟩
    · rw [if_neg hf] at h
      cases h
/-- what the class's reading leaves -/
def rdQ (M : mm_M) (T : Nat → Nat) (t : Nat) : am_Q := fun r N => r = .inl none ∧ ((∃ p, cpE T t = .inr p ∧ cgF M N ∧ N.1 46 15 = 1 ∧ N.1 46 16 = nI p) ∨ ∃ s, cpE T t = .inl s ∧
  (((chF s.2.2.2.1 s.2.2.2.2.1 (s.2.1 + 1)).1 ≠ 0 ∧ cgF M N ∧ N.1 46 15 = nI (chF s.2.2.2.1 s.2.2.2.2.1 (s.2.1 + 1)).1 ∧ N.1 46 16 = nI (s.2.2.2.2.2 (chF s.2.2.2.1 s.2.2.2.2.1 (s.2.1 + 1)).2)) ∨
   ((chF s.2.2.2.1 s.2.2.2.2.1 (s.2.1 + 1)).1 = 0 ∧ ∃ K, cgF M K ∧ K.1 46 15 = 0 ∧ K.1 46 16 = 0 ∧ cgV K s.2.2.2.1 s.2.2.2.2.1 (s.2.1 + 1) ∧ toI K N s.2.2.2.1 s.2.2.2.2.1 s.2.2.1 (s.2.1 + 1) 512)))
section RDC
variable {d : Nat} {M : mm_M} {T : Nat → Nat} {t : Nat}
set_option maxRecDepth 100000 in
theorem ct_rdC (ht : t ≤ 400) (hT : ∀ j, j < t → M.1 1 j = nI (T j) ∧ T j < 127) : am_M (d + 7) false nm_X3_read [aR 46, aR 1, aI (nI t)] M (rdQ M T t) := by
  refine ⟨rfl, rfl, rfl, fun X hX => am_run hX 17 _ _ _ _ ?_⟩
  conv => whnf
  refine rdM (d := d) hX ht hT (fun N s hF hS hE h15 h16 l3 => ?_) (fun N p hF hE h15 h16 l3 => ?_) _ ?_ ?_ rfl rfl
  · obtain ⟨hR, hf⟩ := cpE_i hE
    have g := cpR_g T t ht hR
    obtain ⟨h0, hN⟩ := cpF_0 g hf
    have g8 := fun j hj => cpG_8 g (j := j) hj
    obtain ⟨L, r, q, x, z, pl⟩ := s
    obtain ⟨s1, s2, s3, s4⟩ := hS
    obtain ⟨g1, g2, g3, g4, g5⟩ := g
    simp only at s1 s2 s3 s4 h0 hN g1 g2 g3 g4 g8
    refine am_run hX 12 _ _ _ _ ?_
    conv => whnf
    rw [s3]
    generalize hN1 : mm_i (mm_i N 46 (upd (N.1 46) 12 (nI q))) 46 (upd ((mm_i N 46 (upd (N.1 46) 12 (nI q))).1 46) 13 ((mm_i N 46 (upd (N.1 46) 12 (nI q))).1 46 13 + 1)) = N1
    have a12 : N1.1 46 12 = nI q := by rw [← hN1]; rfl
    have a13 : N1.1 46 13 = nI (r + 1) := by
      rw [← hN1]
      show N.1 46 13 + 1 = _
      rw [s2, nI_1]
    have a15 : N1.1 46 15 = 0 := by rw [← hN1]; exact h15
    have a16 : N1.1 46 16 = 0 := by rw [← hN1]; exact h16
    have aF : cgF M N1 := by
      rw [← hN1]
      refine cgF_t hF ⟨fun k a b c => by rw [mm_ne _ _ _ _ a, mm_ne _ _ _ _ a], rfl, fun y hy => ?_⟩
      rw [mm_i1, mm_i1]
      unfold upd
      rw [if_neg (by omega), if_neg (by omega)]
    have aV : cgV N1 x z (r + 1) := fun j hj => by
      have h1 := s4 j (by omega)
      have h2 := g8 j (by omega)
      refine ⟨?_, h2.1, h2.2.1⟩
      rw [← hN1]
      exact h1.1
    have aP : ∀ j, j < r + 1 → N1.1 50 j = nI (pl j) := fun j hj => by
      rw [← hN1]
      exact (s4 j (by omega)).2
    refine am_cq (ct_chk (d := d + 3) (M := N1) (x := x) (z := z) (pl := pl) (by omega) a13 a15 aV aP) fun r9 N2 hq => ?_
    obtain ⟨q1, q2⟩ := hq
    refine ⟨none, q1, ?_⟩
    conv => whnf
    by_cases hc : (chF x z (r + 1)).1 = 0
    · rw [if_pos hc] at q2
      subst q2
      refine am_run hX 6 _ _ _ _ ?_
      conv => whnf
      rw [a15]
      refine ⟨fun c => absurd rfl c, fun _ => ?_⟩
      conv => whnf
      refine am_cq (ct_tkO (d := d + 1) (M := N2) (x := x) (z := z) (n := q) (s := r + 1) (by omega) (by omega) a12 a13 aV) fun r8 N3 hq => ?_
      obtain ⟨u1, u2⟩ := hq
      refine ⟨none, u1, ?_⟩
      conv => whnf
      refine ⟨trivial, rfl, Or.inr ⟨_, hE, Or.inr ⟨hc, N2, aF, a15, a16, aV, u2⟩⟩⟩
    · rw [if_neg hc] at q2
      subst q2
      have hk3 : (chF x z (r + 1)).1 ≤ 3 := by
        have : ∀ i, (chF x z i).1 ≤ 3 := by
          intro i
          induction i with
          | zero => exact Nat.zero_le 3
          | succ i ih =>
            show (if (chF x z i).1 = 0 then (chK x z i, i) else chF x z i).1 ≤ 3
            split
            · show chK x z i ≤ 3
              unfold chK
              split
              · decide
              · split <;> decide
            · exact ih
        exact this _
      refine am_run hX 4 _ _ _ _ ?_
      conv => whnf
      refine ⟨fun _ => ?_, fun c => absurd (fun e => hc ((nI_eq (b := 0) (by omega) (by decide)).mp e)) c⟩
      conv => whnf
      exact ⟨trivial, rfl, Or.inr ⟨_, hE, Or.inl ⟨hc, cgF_f aF, rfl, rfl⟩⟩⟩
  · refine am_run hX 4 _ _ _ _ ?_
    conv => whnf
    rw [h15]
    refine ⟨fun _ => ?_, fun c => absurd (by decide) c⟩
    conv => whnf
    exact ⟨trivial, rfl, Or.inl ⟨p, hE, hF, h15, h16⟩⟩
  · refine ⟨fun k a b c => by rw [mm_ne _ _ _ _ a, mm_ne _ _ _ _ a, mm_ne _ _ _ _ a, mm_ne _ _ _ _ a, mm_ne _ _ _ _ a], rfl, fun y hy => ?_⟩
    rw [mm_i1, mm_i1, mm_i1, mm_i1, mm_i1]
    unfold upd
    rw [if_neg (by omega), if_neg (by omega), if_neg (by omega), if_neg (by omega), if_neg (by omega)]
  · exact ⟨rfl, rfl, rfl, fun j hj => by
      simp only at hj
      omega⟩
end RDC
