/-! SHORTEST: the least word, what both are to find -/
theorem aw_c : ∀ (v : List Nat) (k : K4), awS stZ v k = szA (v.map szS) k
  | [], _ => rfl
  | g :: v, k => aw_c v (stZ g k)
theorem al_S {v : List Nat} (h : al5 v) : al19 (v.map szS) := by
  intro g hg
  obtain ⟨y, hy, rfl⟩ := List.mem_map.mp hg
  exact szS_19 y (h y hy)
theorem sym_A : ∀ (u : List Nat) (k : K4), al19 u → symK k → symK (szA u k)
  | [], _, _, h => h
  | g :: u, k, hu, h => sym_A u (szP g k) (fun x hx => hu x (List.mem_cons_of_mem _ hx)) (sym_P (hu g List.mem_cons_self) h)
/-- some word of at most 14 steps makes what gates make -/
theorem lwE {u : List Nat} (hu : al19 u) : ∃ w, al5 w ∧ w.length ≤ 14 ∧ awS stZ w k4e = szA u k4e := by
  obtain ⟨v, v1, v2, v3⟩ := dm_14 (sym_A (szV u) k4e (szV_19 hu) sym_e)
  refine ⟨v, v1, v2, ?_⟩
  rw [aw_c] at v3 ⊢
  exact (sz_DR hu (al_S v1)).mp v3
/-- the least of all words that make it -/
def isL (u w : List Nat) : Prop := al5 w ∧ awS stZ w k4e = szA u k4e ∧ ∀ v, al5 v → awS stZ v k4e = szA u k4e → slx w v
theorem isL_u {u w w' : List Nat} (h : isL u w) (h' : isL u w') : w = w' := slx_u (h.2.2 w' h'.1 h'.2.1) (h'.2.2 w h.1 h.2.1)
theorem slx_n {u v : List Nat} (h : slx u v) : u.length ≤ v.length := by
  rcases h with (h | ⟨h, _⟩) | h
  · exact Nat.le_of_lt h
  · omega
  · rw [h]
    exact Nat.le_refl _
theorem isL_14 {u w : List Nat} (hu : al19 u) (h : isL u w) : w.length ≤ 14 := by
  obtain ⟨v, v1, v2, v3⟩ := lwE hu
  have := slx_n (h.2.2 v v1 v3)
  omega
/-- the reference's table has it -/
theorem isL_T {n : Nat} {T : Nat → K4} {fr yb : Nat → Nat} (h : bfT stZ n T fr yb k4e) (c : bfC stZ n T fr yb) {u : List Nat} (hu : al19 u) : ∃ i, i < n ∧ T i = szA u k4e ∧ isL u (wdB fr yb i i) := by
  obtain ⟨v, v1, _, v3⟩ := lwE hu
  obtain ⟨i, hi, ei, _⟩ := bf_least h c v v1
  have ei := ei.trans v3
  obtain ⟨b1, b2⟩ := bf_val h i hi
  refine ⟨i, hi, ei, b2, b1.trans ei, fun x x1 x2 => ?_⟩
  obtain ⟨j, hj, ej, lj⟩ := bf_least h c x x1
  have : j = i := h.2.2.2.1 j i hj hi (ej.trans (x2.trans ei.symm))
  subst this
  exact lj
/-- the class's steps give it -/
theorem isL_G {u w : List Nat} {d : Nat} (hu : al19 u) (hd : dlS stZ k4e (szA (szV u) k4e) d) (h : grW stZ k4e (szA (szV u) k4e) d w) : isL u w := by
  obtain ⟨a, b, _⟩ := gr_val w _ d h
  rw [aw_c] at a
  refine ⟨b, by rw [aw_c]; exact (sz_DR hu (al_S b)).mp a, fun v v1 v2 => ?_⟩
  rw [aw_c] at v2
  refine gr_least w _ d hd h v v1 ?_
  rw [aw_c]
  exact (sz_DR hu (al_S v1)).mpr v2
/-- the OPS that SHORTEST makes -/
noncomputable def shZ (l : List bk_X) : List bk_X := @dite (List bk_X) (∃ w, isL (l.map gC) w) (Classical.propDecidable _) (fun h => (Classical.choose h).map stX) (fun _ => [])
theorem shZ_w {l : List bk_X} {w : List Nat} (h : isL (l.map gC) w) : shZ l = w.map stX := by
  have h2 : ∃ w, isL (l.map gC) w := ⟨w, h⟩
  unfold shZ
  rw [dif_pos h2, isL_u (Classical.choose_spec h2) h]
theorem al_C {l : List bk_X} (ho : allO 2 l) (hp : plA l) : al19 (l.map gC) := by
  intro g hg
  obtain ⟨y, hy, rfl⟩ := List.mem_map.mp hg
  have h1 : ogd 2 y := (zg_all (P := fun x => ogd 2 x)).mp (fun j hj => (ho j hj).1) y hy
  have h2 : plB y = true := (zg_all (P := fun x => plB x = true)).mp (fun j hj => hp j hj) y hy
  unfold plB at h2
  have h3 := of_decide_eq_true h2
  exact gC_19 h1 h3
theorem shZ_L : shL shZ := by
  intro l ho hp
  unfold shZ
  split
  · rename_i h
    have hs := Classical.choose_spec h
    refine ⟨?_, fun x hx => ?_⟩
    · rw [List.length_map]
      have := isL_14 (al_C ho hp) hs
      omega
    · obtain ⟨y, hy, rfl⟩ := List.mem_map.mp hx
      exact stX_o (hs.1 y hy)
  · exact ⟨by decide, fun x hx => absurd hx List.not_mem_nil⟩
