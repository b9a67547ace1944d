/-! THE INVARIANT is kept: the TABLE -/
section IVK
variable {KI : List Nat} {KO : List (Nat × Nat)} {KL : List Nat} {M N K : mm_M}
theorem tbg_A {n : Nat} {A B : Nat → RW} (h : tb_g M n A B) : okY n A ∧ okY n B ∧ gEq n A B := by
  have a : okY n A := ⟨h.1, fun j hj => (h.2.2.2.1 j hj).1, h.2.2.2.2.1⟩
  have b : okY n B := ⟨h.1, fun j hj => (h.2.2.2.1 j hj).2.1, h.2.2.2.2.2.1⟩
  exact ⟨a, b, red_eq a b h.2.2.2.2.2.2.1⟩
/-- a new TABLE has no minus one -/
theorem nm_new {n : Nat} (n20 : n ≤ 20) : nmG n (fun j => (0, 2 ^ j, 0)) := by
  have ok : okY n (fun j => ((0, 2 ^ j, 0) : RW)) := ⟨n20, fun j hj => n_w hj (by decide), fun i j _ _ => z_cm⟩
  have key : ∀ y, gG n (fun j => ((0, 2 ^ j, 0) : RW)) y → y.1 = 0 ∧ y.2.2 = 0 := fun y hy => by
    refine gG_ind (P := fun y => y.1 = 0 ∧ y.2.2 = 0) ⟨rfl, rfl⟩ (fun y j hy hj ih => ?_) hy
    have r := gG_n ok hy
    have p := phq_m n20 r (ok.2.1 j hj) (gG_c ok hj hy)
    have x : (mulA y (0, 2 ^ j, 0)).1 = 0 := by
      show y.1 ^^^ 0 = 0
      rw [ih.1, Nat.xor_zero]
    refine ⟨x, ?_⟩
    have r2 := (n_mul r (ok.2.1 j hj)).2.2
    unfold phq at p
    have p : (2 * (mulA y (0, 2 ^ j, 0)).2.2 + be n (mulA y (0, 2 ^ j, 0)).1 (mulA y (0, 2 ^ j, 0)).2.1) % 4 = (2 * y.2.2 + be n y.1 y.2.1 + (2 * 0 + be n 0 (2 ^ j)) + 2 * be n y.2.1 0) % 4 := p
    rw [x, ih.1, ih.2, be_0, be_0, be_0, be_c, be_0] at p
    show (mulA y (0, 2 ^ j, 0)).2.2 = 0
    have r2 : (mulA y (0, 2 ^ j, 0)).2.2 < 2 := r2
    omega
  exact fun y hy _ _ => (key y hy).2
theorem tz_r {n k : Nat} {g : Int32} (a : k ≠ 25) (b : k ≠ 26) (c : k ≠ 27) (d : k ≠ 28) : (tz M n g).1 k = M.1 k := by
  unfold tz
  show (if k = 25 then _ else if k = 26 then _ else if k = 27 then _ else if k = 28 then _ else M.1 k) = M.1 k
  rw [if_neg a, if_neg b, if_neg c, if_neg d]
theorem gA_r' {n k : Nat} {F : Nat → RW} (b : k ≠ 26) (c : k ≠ 27) (d : k ≠ 28) : (gA M F n).1 k = M.1 k := by
  show (if k = 26 then _ else if k = 27 then _ else if k = 28 then _ else M.1 k) = M.1 k
  rw [if_neg b, if_neg c, if_neg d]
theorem gB_r' {n k : Nat} {F : Nat → RW} (b : k ≠ 157) (c : k ≠ 158) (d : k ≠ 159) : (gB M F n).1 k = M.1 k := by
  show (if k = 157 then _ else if k = 158 then _ else if k = 159 then _ else M.1 k) = M.1 k
  rw [if_neg b, if_neg c, if_neg d]
theorem ivF_gA {n : Nat} {F : Nat → RW} (h1 : KI.contains 26 = true) (h2 : KI.contains 27 = true) (h3 : KI.contains 28 = true) : ivF KI KO KL M (gA M F n) := ⟨fun k y a _ => by rw [gA_r' (ki_n a h1) (ki_n a h2) (ki_n a h3)], fun _ _ => rfl⟩
theorem ivF_gB {n : Nat} {F : Nat → RW} (h1 : KI.contains 157 = true) (h2 : KI.contains 158 = true) (h3 : KI.contains 159 = true) : ivF KI KO KL M (gB M F n) := ⟨fun k y a _ => by rw [gB_r' (ki_n a h1) (ki_n a h2) (ki_n a h3)], fun _ _ => rfl⟩

theorem jv_table {n : Nat} (n1 : 1 ≤ n) (n2 : n ≤ 20) (h : IV M) : IV (tb_2 (tz M n 0) n) := by
  have F : ivF [26, 27, 28, 157, 158, 159] [(25, 3), (25, 4), (108, 0), (108, 81)] [] M (tb_2 (tz M n 0) n) := by
    have f1 : ivF [26, 27, 28, 157, 158, 159] [(25, 3), (25, 4), (108, 0), (108, 81)] [] M (tz M n 0) := by
      refine ⟨fun k y a b => ?_, fun _ _ => rfl⟩
      by_cases e : k = 25
      · subst e
        show upd (upd (M.1 25) 3 (nI n)) 4 0 y = M.1 25 y
        rw [up_ne (ko_n b rfl), up_ne (ko_n b rfl)]
      · rw [tz_r e (ki_n a rfl) (ki_n a rfl) (ki_n a rfl)]
    refine ivF_t f1 (ivF_t (ivF_g (k := 108) (g := upd (upd ((tz M n 0).1 108) 0 0) 81 (nI n)) (fun y hy => by rw [up_ne (ko_n hy rfl), up_ne (ko_n hy rfl)])) ⟨fun k y a b => ?_, fun _ _ => rfl⟩)
    have a1 : k ≠ 157 := ki_n a rfl
    have a2 : k ≠ 158 := ki_n a rfl
    have a3 : k ≠ 159 := ki_n a rfl
    show (ty (mm_i (tz M n 0) 108 (upd (upd ((tz M n 0).1 108) 0 0) 81 (nI n))) n).1 k y = (mm_i (tz M n 0) 108 (upd (upd ((tz M n 0).1 108) 0 0) 81 (nI n))).1 k y
    simp [ty, a1, a2, a3]
  refine IV_k h F (Or.inl rfl) (Or.inl rfl) (Or.inl rfl) (Or.inl rfl) (Or.inl rfl) (Or.inl rfl) (Or.inl rfl) (Or.inl rfl) (Or.inl rfl) (Or.inl rfl) (Or.inr ?_) (Or.inl rfl) (Or.inl rfl) (Or.inl rfl) (Or.inl rfl) (Or.inl rfl) (Or.inl rfl) (Or.inl rfl) (Or.inl rfl) (Or.inl rfl) (Or.inl rfl) (Or.inl rfl)
  · exact ⟨n, _, _, tb_new n1 n2, nm_new n2⟩

theorem jv_row {M' : mm_M} {n : Nat} {A B A' B' : Nat → RW} (h0 : tb_g M n A B) (hn : nmG n A) (h1 : A' = A ∧ N = M ∨ A' = redR n A ∧ N = strM M n A) (h2 : B' = B ∧ M' = th0 N ∨ B' = redR n B ∧ M' = gB (th0 N) (redR n B) n) (h3 : tb_g M' n A' B') (h : IV M) : IV (M') := by
  have F : ivF [26, 27, 28, 157, 158, 159] [(25, 4), (108, 0)] [] M (M') := by
    have f1 : ivF [26, 27, 28, 157, 158, 159] [(25, 4), (108, 0)] [] M N := by
      rcases h1 with ⟨_, z⟩ | ⟨_, z⟩
      · rw [z]
        exact ivF_r
      · rw [z]
        exact ivF_t (ivF_gA rfl rfl rfl) (ivF_g (k := 25) (fun y hy => by rw [up_ne (ko_n hy rfl), gA_r' (by decide) (by decide) (by decide)]))
    rcases h2 with ⟨_, z⟩ | ⟨_, z⟩
    · rw [z]
      exact ivF_t f1 (ivF_0 rfl)
    · rw [z]
      exact ivF_t f1 (ivF_t (ivF_0 rfl) (ivF_gB rfl rfl rfl))
  refine IV_k h F (Or.inl rfl) (Or.inl rfl) (Or.inl rfl) (Or.inl rfl) (Or.inl rfl) (Or.inl rfl) (Or.inl rfl) (Or.inl rfl) (Or.inl rfl) (Or.inl rfl) (Or.inr ?_) (Or.inl rfl) (Or.inl rfl) (Or.inl rfl) (Or.inl rfl) (Or.inl rfl) (Or.inl rfl) (Or.inl rfl) (Or.inl rfl) (Or.inl rfl) (Or.inl rfl) (Or.inl rfl)
  · refine ⟨n, A', B', h3, ?_⟩
    rcases h1 with ⟨z, _⟩ | ⟨z, _⟩
    · rw [z]
      exact hn
    · rw [z]
      exact nmG_e (tbg_A h0).1 (gEq_s (red_G (tbg_A h0).1).2) hn

theorem jv_gate {n k a b : Nat} {A B : Nat → RW} (h0 : tb_g M n A B) (hn : nmG n A) (ha : a < n) (hk : k < 5 ∨ ((k = 5 ∨ k = 6 ∨ k = 7) ∧ b < n ∧ a ≠ b)) (h : IV M) : IV (gB (th0 (gt_1 M (fun j => gr k a b (A j)) n)) (fun j => gr k a b (B j)) n) := by
  have F : ivF [26, 27, 28, 157, 158, 159] [(25, 4), (108, 0)] [] M (gB (th0 (gt_1 M (fun j => gr k a b (A j)) n)) (fun j => gr k a b (B j)) n) := ivF_t (ivF_u (k := 25) (y := 4) rfl) (ivF_t (ivF_gA rfl rfl rfl) (ivF_t (ivF_0 rfl) (ivF_gB rfl rfl rfl)))
  refine IV_k h F (Or.inl rfl) (Or.inl rfl) (Or.inl rfl) (Or.inl rfl) (Or.inl rfl) (Or.inl rfl) (Or.inl rfl) (Or.inl rfl) (Or.inl rfl) (Or.inl rfl) (Or.inr ?_) (Or.inl rfl) (Or.inl rfl) (Or.inl rfl) (Or.inl rfl) (Or.inl rfl) (Or.inl rfl) (Or.inl rfl) (Or.inl rfl) (Or.inl rfl) (Or.inl rfl) (Or.inl rfl)
  · obtain ⟨oA, oB, eq⟩ := tbg_A h0
    refine ⟨n, _, _, ⟨h0.1, h0.2.1, h0.2.2.1, fun j hj => ⟨n_gr ha hk (oA.2.1 j hj), n_gr ha hk (oB.2.1 j hj), ?_, gB_row hj⟩, (grq_ok oA ha hk).2.2, (grq_ok oB ha hk).2.2, ?_, Or.inl rfl⟩, gr_N oA ha hk hn⟩
    · exact gA_row (M := mm_i M 25 (upd (M.1 25) 4 0)) (Y := fun j => gr k a b (A j)) hj
    · exact red_un (grq_ok oA ha hk) (grq_ok oB ha hk) (gr_E oA oB ha hk eq) (gr_N oA ha hk hn) (fun j hj => by show gr k a b (A j) = gr k a b (B j); rw [red_oe h0.2.2.2.2.2.2.1 hj])

theorem jv_meas {M' : mm_M} {n : Nat} {A B A' : Nat → RW} (h0 : tb_g M n A B) (hn : nmG n A) (h1 : A' = A ∧ N = M ∨ A' = redR n A ∧ N = strM M n A) (h2 : M' = gB (th0 N) (redR n B) n) (h3 : tb_g M' n A' (redR n B)) (h : IV M) : IV (M') := by
  have F : ivF [26, 27, 28, 157, 158, 159] [(25, 4), (108, 0)] [] M (M') := by
    have f1 : ivF [26, 27, 28, 157, 158, 159] [(25, 4), (108, 0)] [] M N := by
      rcases h1 with ⟨_, z⟩ | ⟨_, z⟩
      · rw [z]
        exact ivF_r
      · rw [z]
        exact ivF_t (ivF_gA rfl rfl rfl) (ivF_g (k := 25) (fun y hy => by rw [up_ne (ko_n hy rfl), gA_r' (by decide) (by decide) (by decide)]))
    rw [h2]
    exact ivF_t f1 (ivF_t (ivF_0 rfl) (ivF_gB rfl rfl rfl))
  refine IV_k h F (Or.inl rfl) (Or.inl rfl) (Or.inl rfl) (Or.inl rfl) (Or.inl rfl) (Or.inl rfl) (Or.inl rfl) (Or.inl rfl) (Or.inl rfl) (Or.inl rfl) (Or.inr ?_) (Or.inl rfl) (Or.inl rfl) (Or.inl rfl) (Or.inl rfl) (Or.inl rfl) (Or.inl rfl) (Or.inl rfl) (Or.inl rfl) (Or.inl rfl) (Or.inl rfl) (Or.inl rfl)
  · refine ⟨n, A', _, h3, ?_⟩
    rcases h1 with ⟨z, _⟩ | ⟨z, _⟩
    · rw [z]
      exact hn
    · rw [z]
      exact nmG_e (tbg_A h0).1 (gEq_s (red_G (tbg_A h0).1).2) hn

theorem jv_meaz {M' : mm_M} {n w v i i' : Nat} {A B : Nat → RW} (h0 : tb_g M n A B) (hn : nmG n A) (hw : w < n) (hv : v < 2) (hi : fiR n w A i) (hi' : fiR n w B i') (h1 : taF M N) (h4 : N.1 25 4 = 0) (hA : ∀ j, j < n → rA N j (mzR n w v i mulA A j)) (h2 : trF (th0 N) M') (hB : ∀ j, j < n → rB M' j (mzR n w v i' mulA B j)) (h : IV M) : IV (M') := by
  have F : ivF [26, 27, 28, 157, 158, 159] [(25, 4), (108, 0)] [] M (M') := by
    have f1 : ivF [26, 27, 28, 157, 158, 159] [(25, 4), (108, 0)] [] M N := by
      refine ⟨fun k y a b => ?_, fun k _ => by rw [h1.2.2]⟩
      by_cases e : k = 25
      · subst e
        exact h1.2.1 y (ko_n b rfl)
      · rw [h1.1 k (by have := ki_q (a := 26) (n := 3) (by decide) a; omega)]
    refine ivF_t f1 (ivF_t (ivF_0 rfl) ⟨fun k y a _ => ?_, fun k _ => by rw [h2.2]⟩)
    rw [h2.1 k (by have := ki_q (a := 157) (n := 3) (by decide) a; omega)]
  refine IV_k h F (Or.inl rfl) (Or.inl rfl) (Or.inl rfl) (Or.inl rfl) (Or.inl rfl) (Or.inl rfl) (Or.inl rfl) (Or.inl rfl) (Or.inl rfl) (Or.inl rfl) (Or.inr ?_) (Or.inl rfl) (Or.inl rfl) (Or.inl rfl) (Or.inl rfl) (Or.inl rfl) (Or.inl rfl) (Or.inl rfl) (Or.inl rfl) (Or.inl rfl) (Or.inl rfl) (Or.inl rfl)
  · obtain ⟨oA, oB, eq⟩ := tbg_A h0
    have a := mz_ok (v := v) oA hw hv hi.1 hi.2.1
    have b := mz_ok (v := v) oB hw hv hi'.1 hi'.2.1
    have e25 : M'.1 25 = N.1 25 := by rw [h2.1 25 (by decide), th_r _ (by decide)]
    refine ⟨n, trR n (mzR n w v i mulA A), trR n (mzR n w v i' mulA B), ⟨h0.1, ?_, ?_, fun j hj => ⟨(tr_ok a).2.1 j hj, (tr_ok b).2.1 j hj, ?_, ?_⟩, (tr_ok a).2.2, (tr_ok b).2.2, mz_red oA oB hw hv hi hi' eq hn, Or.inl ?_⟩, tr_N (mz_N oA hw hv hi.1 hi.2.1 hn)⟩
    · rw [e25, h1.2.1 3 (by decide)]
      exact h0.2.1
    · rw [h2.1 108 (by decide), th_8 _ (by decide), h1.1 108 (by decide)]
      exact h0.2.2.1
    · rw [tr_j hj]
      have := hA j hj
      unfold rA at this ⊢
      rw [h2.1 26 (by decide), h2.1 27 (by decide), h2.1 28 (by decide), th_r _ (by decide), th_r _ (by decide), th_r _ (by decide)]
      exact this
    · rw [tr_j hj]
      exact hB j hj
    · rw [e25]
      exact h4

end IVK
