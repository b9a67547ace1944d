/-! WHAT HOLDS BEHIND run -/
theorem ru_sn {M : mm_M} {c W k : Nat} {xs : Nat → R4} (h : ru_s M c W k) {M' : mm_M} (k' : Nat) (xs' : Nat → R4) (hk : k' ≤ 60) (e1 : M'.1 17 5 = M.1 17 5) (e2 : M'.1 108 65 = M.1 108 65) (e3 : M'.1 108 66 = M.1 108 66) (e4 : M'.1 17 6 = M.1 17 6) (e5 : M'.1 108 71 = M.1 108 71) (e6 : M'.1 18 2 = M.1 18 2) (e7 : M'.1 18 3 = nI k') (hb : ∀ j, j < 2 ^ W → bd (xs' j)) (hx : ∀ j, j < 2 ^ W → rt_at M' 20 j (xs' j) ∧ rf_at M' 150 j (red k' (xs' j))) : ru_s M' c W k' := by
  obtain ⟨a1, a2, a3, a4, b1, b2, b3, b4, b5, b6, b7, _⟩ := h
  exact ⟨a1, a2, a3, hk, by rw [e1, b1], by rw [e2, b2], by rw [e3, b3], by rw [e4, b4], by rw [e5, b5], by rw [e6, b6], e7, fun j hj => ⟨xs' j, hb j hj, (hx j hj).1, (hx j hj).2⟩⟩
theorem ru_aft {M : mm_M} {n c W S : Nat} {op : Nat → bk_X} {k : Nat} {xs : Nat → R4} {dn tk b T : Nat} (h : run_iv M n c W S op k xs dn tk b) (hTS : dn + T ≤ S) (gv gk : Int32) (v : Int64) (q o f : Nat → Int64) : run_iv (ru_af M W dn T (arun W (M.2 17 11) op dn (k, xs, tk, b) T) gv gk v q o f) n c W S op (arun W (M.2 17 11) op dn (k, xs, tk, b) T).1 (arun W (M.2 17 11) op dn (k, xs, tk, b) T).2.1 (dn + T) (arun W (M.2 17 11) op dn (k, xs, tk, b) T).2.2.1 (arun W (M.2 17 11) op dn (k, xs, tk, b) T).2.2.2 := by
  obtain ⟨hb, ⟨hrs, hrn⟩, ⟨e1, e2, e3, e4, e5, e6, e7⟩, hdn, htk, hb8, hkk, h60⟩ := h
  have hops := hb.2.2.2
  have hao : aok W (k, xs, tk, b) := ⟨hrn.2, hb8⟩
  obtain ⟨a1, a2, a3⟩ := ar_ok (tape := M.2 17 11) (fun j hj => (hops j hj).1) hao hkk htk T hTS
  have hm := hcn_m op (dn + T) (S - (dn + T))
  rw [show dn + T + (S - (dn + T)) = S by omega] at hm
  generalize arun W (M.2 17 11) op dn (k, xs, tk, b) T = σ at *
  have hk6 : σ.1 ≤ 60 := by omega
  have hbd := aok_bd a1 hk6
  have hx : ∀ j, j < 2 ^ W → rt_at (ru_af M W dn T σ gv gk v q o f) 20 j (σ.2.1 j) ∧ rf_at (ru_af M W dn T σ gv gk v q o f) 150 j (red σ.1 (σ.2.1 j)) := fun j hj => ⟨cq_rt (g := M.2 20) (N := 2 ^ W) rfl hj, c5_rf (g := M.2 150) (N := 2 ^ W) (ys := fun j => red σ.1 (σ.2.1 j)) rfl hj (by
    have := (vr_red σ.1 (σ.2.1 j)).1
    show (red σ.1 (σ.2.1 j)).2 < 2 ^ 31
    omega)⟩
  refine ⟨hb, ⟨ru_sn (xs := xs) hrs σ.1 σ.2.1 hk6 rfl rfl rfl rfl rfl rfl rfl hbd hx, hx, a1.1⟩, ⟨rfl, rfl, rfl, rfl, rfl, rfl, e7⟩, hTS, a3, a1.2, a2, h60⟩
