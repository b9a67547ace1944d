/-! the bank grows: circuit, turn, least tell it -/
section IVH
variable {KI : List Nat} {KO : List (Nat × Nat)} {KL : List Nat} {M N K : mm_M}
/-- TURN puts OPS that are good -/
theorem og_t1 {W k w : Nat} (hk : bk_w W (o1 k w)) (k8 : k ≠ 8) : ogd W (o1 k w) := ⟨hk, by show (0 : Nat).testBit w = false; exact Nat.zero_testBit w, fun e => absurd e k8⟩
theorem og_X {W q c : Nat} (hk : bk_w W (oX q c)) (h : q ≠ c) : ogd W (oX q c) := ⟨hk, by
  show (2 ^ c).testBit q = false
  rw [Nat.testBit_two_pow]
  exact decide_eq_false (fun e => h e.symm), fun e => absurd e (by show ¬ (0 = 8); decide)⟩
def oTn (x : bk_X) : Prop := (∃ k w, k ≠ 8 ∧ x = o1 k w) ∨ ∃ q c, q ≠ c ∧ x = oX q c
theorem oTn_b1 {X Z : Nat} : ∀ i x, x ∈ bs1 X Z i → oTn x
  | 0, x, h => nomatch h
  | i + 1, x, h => by
    rcases List.mem_append.mp h with h | h
    · exact oTn_b1 i x h
    · split at h
      · exact nomatch h
      · split at h
        · exact Or.inl ⟨3, i, by decide, List.mem_singleton.mp h⟩
        · rcases List.mem_cons.mp h with h | h
          · exact Or.inl ⟨6, i, by decide, h⟩
          · exact Or.inl ⟨3, i, by decide, List.mem_singleton.mp h⟩
theorem oTn_b2 {X Z : Nat} : ∀ i x, x ∈ bs2 X Z i → oTn x
  | 0, x, h => nomatch h
  | i + 1, x, h => by
    rcases List.mem_append.mp h with h | h
    · exact oTn_b2 i x h
    · split at h
      · exact nomatch h
      · split at h
        · exact Or.inl ⟨3, i, by decide, List.mem_singleton.mp h⟩
        · rcases List.mem_cons.mp h with h | h
          · exact Or.inl ⟨3, i, by decide, h⟩
          · exact Or.inl ⟨4, i, by decide, List.mem_singleton.mp h⟩
theorem oTn_up {S : Nat} : ∀ i, (ups S i).2 ≤ i ∧ ∀ x, x ∈ (ups S i).1 → oTn x
  | 0 => ⟨Nat.le_refl _, fun x h => nomatch h⟩
  | i + 1 => by
    obtain ⟨a, b⟩ := oTn_up (S := S) i
    unfold ups
    by_cases c : bt S i = 0
    · rw [if_pos c]
      exact ⟨by omega, b⟩
    · rw [if_neg c]
      refine ⟨Nat.le_refl _, fun x h => ?_⟩
      by_cases d : (ups S i).2 = 0
      · have h : x ∈ (if (ups S i).2 = 0 then (ups S i).1 else (ups S i).1 ++ [oX i ((ups S i).2 - 1)]) := h
        rw [if_pos d] at h
        exact b x h
      · have h : x ∈ (if (ups S i).2 = 0 then (ups S i).1 else (ups S i).1 ++ [oX i ((ups S i).2 - 1)]) := h
        rw [if_neg d] at h
        rcases List.mem_append.mp h with h | h
        · exact b x h
        · exact Or.inr ⟨i, (ups S i).2 - 1, by omega, List.mem_singleton.mp h⟩
theorem oTn_dn {S : Nat} : ∀ i q, i ≤ q → ∀ x, x ∈ dns S i q → oTn x
  | 0, q, _, x, h => nomatch h
  | i + 1, q, hq, x, h => by
    unfold dns at h
    by_cases c : bt S i = 0
    · rw [if_pos c] at h
      exact oTn_dn i q (by omega) x h
    · rw [if_neg c] at h
      rcases List.mem_cons.mp h with h | h
      · exact Or.inr ⟨q, i, by omega, h⟩
      · exact oTn_dn i i (Nat.le_refl _) x h
theorem oTn_e {e w : Nat} (x : bk_X) (h : x ∈ eis e w) : oTn x := by
  have one : ∀ {k : Nat}, k ≠ 8 → x ∈ [o1 k w] → oTn x := fun k8 m => Or.inl ⟨_, w, k8, List.mem_singleton.mp m⟩
  have two : ∀ {k l : Nat}, k ≠ 8 → l ≠ 8 → x ∈ [o1 k w, o1 l w] → oTn x := fun k8 l8 m => by
    rcases List.mem_cons.mp m with m | m
    · exact Or.inl ⟨_, w, k8, m⟩
    · exact one l8 m
  unfold eis at h
  split at h
  · exact nomatch h
  · exact one (by decide) h
  · exact one (by decide) h
  · exact two (by decide) (by decide) h
  · exact one (by decide) h
  · exact two (by decide) (by decide) h
  · exact one (by decide) h
  · exact one (by decide) h
theorem og_tr {X Z W e : Nat} (w8 : W ≤ 8) (hX : X < 2 ^ W) (hZ : Z < 2 ^ W) (s0 : X ||| Z ≠ 0) (x : bk_X) (h : x ∈ trL X Z e) : ogd W x := by
  have hw := w_tr (e := e) w8 hX hZ s0 x h
  have : oTn x := by
    unfold trL at h
    rcases List.mem_append.mp h with h | h
    · exact oTn_b1 8 x h
    · rcases List.mem_append.mp h with h | h
      · exact (oTn_up 8).2 x h
      · rcases List.mem_append.mp h with h | h
        · exact oTn_e x h
        · rcases List.mem_append.mp h with h | h
          · exact oTn_dn _ _ (Nat.le_refl _) x h
          · exact oTn_b2 8 x h
  rcases this with ⟨k, v, k8, rfl⟩ | ⟨q, c, qc, rfl⟩
  · exact og_t1 hw k8
  · exact og_X hw qc
/-- what turn changes -/
def tuF (M N : mm_M) : Prop := (∀ k, k ≠ 9 → k ≠ 10 → k ≠ 11 → k ≠ 12 → k ≠ 13 → k ≠ 108 → (k < 110 ∨ 118 ≤ k) → (k < 133 ∨ 136 ≤ k) → N.1 k = M.1 k) ∧ N.2 = M.2 ∧ ∀ y, y ≠ 0 → y ≠ 6 → y ≠ 36 → y ≠ 37 → y ≠ 38 → N.1 108 y = M.1 108 y
theorem th_r (M : mm_M) {k : Nat} (h : k ≠ 108) : (th0 M).1 k = M.1 k := mm_ne _ _ _ _ h
theorem th_8 (M : mm_M) {y : Nat} (h : y ≠ 0) : (th0 M).1 108 y = M.1 108 y := by
  unfold th0
  rw [mm_i1, up_ne h]
theorem st_r (M : mm_M) {n W k : Nat} (a : k ≠ 108) (b : k ≠ 110) (c : k ≠ 111) : (stM M n W).1 k = M.1 k := by
  unfold stM
  rw [mm_ne _ _ _ _ a, mm_ne _ _ _ _ c, mm_ne _ _ _ _ b]
theorem st_8 (M : mm_M) {n W y : Nat} (h : y ≠ 6) : (stM M n W).1 108 y = M.1 108 y := by
  unfold stM
  rw [mm_i1, up_ne h]
theorem tu_A {n : Nat} {F : Nat → Nat × List bk_X} (L : List bk_X) (hB : bkX M n F) : tuF M (bkA M L) ∧ bgG M (bkA M L) := by
  have e : ∀ k, k ≠ 9 → k ≠ 13 → k ≠ 108 → (bkA M L).1 k = M.1 k := fun k a b c => by
    unfold bkA
    rw [th_r _ c, dl_r _ _ b a]
  have e8 : ∀ y, y ≠ 0 → (bkA M L).1 108 y = M.1 108 y := fun y hy => by
    unfold bkA
    rw [th_8 _ hy, dl_r _ _ (by decide) (by decide)]
  refine ⟨⟨fun k a _ _ _ b c _ _ => e k a b c, rfl, fun y a _ _ _ _ => e8 y a⟩, bgG_s hB (bkX_cc ?_ (fun k a b => e k (by omega) (by omega) (by omega)) (fun k a => e k (by omega) (by omega) (by omega)) (fun k a x y _ => by rw [e k (by omega) (by omega) (by omega)]) (e8 6 (by decide)) hB)⟩
  unfold bkA
  rw [th_r _ (by decide), dl_9, up_ne (by decide)]
theorem tu_B {n : Nat} {F : Nat → Nat × List bk_X} (L : List bk_X) (hB : bkX M n F) : tuF M (bkB M n L) ∧ bgG M (bkB M n L) := by
  have q := (lay_n (n := n) (M := th0 (dlM M L)) L).1
  have e : ∀ k, k ≠ 9 → k ≠ 13 → k ≠ 108 → k < 112 ∨ 117 < k → k < 133 ∨ 135 < k → (bkB M n L).1 k = M.1 k := fun k a b c x y => by
    unfold bkB
    rw [q.1 k c x y, th_r _ c, dl_r _ _ b a]
  have e8 : ∀ y, y ≠ 0 → y ≠ 36 → y ≠ 37 → y ≠ 38 → (bkB M n L).1 108 y = M.1 108 y := fun y hy a b c => by
    unfold bkB
    rw [q.2.2.1 y a b c, th_8 _ hy, dl_r _ _ (by decide) (by decide)]
  refine ⟨⟨fun k a _ _ _ b c x y => e k a b c (by omega) (by omega), ?_, fun y a _ b c d => e8 y a b c d⟩, bgG_s hB (bkX_cc ?_ (fun k a b => e k (by omega) (by omega) (by omega) (by omega) (by omega)) (fun k a => e k (by omega) (by omega) (by omega) (by omega) (by omega)) (fun k a x y z => ?_) (e8 6 (by decide) (by decide) (by decide) (by decide)) hB)⟩
  · unfold bkB
    rw [q.2.1]
    rfl
  · unfold bkB
    rw [q.1 9 (by decide) (by decide) (by decide), th_r _ (by decide), dl_9, up_ne (by decide)]
  · unfold bkB
    rw [q.2.2.2 k a x y z, th_r _ (by omega), dl_r _ _ (by omega) (by omega)]
theorem tu_C {n W : Nat} {F : Nat → Nat × List bk_X} (L : List bk_X) (hB : bkX M n F) (n20 : n < 20) (ok : okL L) (w1 : 1 ≤ W) (w8 : W ≤ 8) (ho : ∀ x ∈ L, ogd W x) : tuF M (bkC M n W L) ∧ bgG M (bkC M n W L) := by
  obtain ⟨q, ql⟩ := lay_n (n := n) (M := th0 (kpM (dlM M L) n L.length W)) L
  have hB1 : bkX (dlM M L) n F := bkX_cc (by rw [dl_9, up_ne (by decide)]) (fun k a b => dl_r _ _ (by omega) (by omega)) (fun k a => dl_r _ _ (by omega) (by omega)) (fun k a x y _ => by rw [dl_r _ _ (by omega) (by omega)]) (by rw [dl_r _ _ (by decide) (by decide)]) hB
  have e : ∀ k, k ≠ 9 → k ≠ 10 → k ≠ 11 → k ≠ 12 → k ≠ 13 → k ≠ 108 → k < 110 ∨ 117 < k → k < 133 ∨ 135 < k → (bkC M n W L).1 k = M.1 k := fun k a a0 a1 a2 b c x y => by
    unfold bkC
    rw [st_r _ c (by omega) (by omega), q.1 k c (by omega) y, th_r _ c, kp_r _ _ _ _ (by omega), dl_r _ _ b a]
  have e8 : ∀ y, y ≠ 0 → y ≠ 6 → y ≠ 36 → y ≠ 37 → y ≠ 38 → (bkC M n W L).1 108 y = M.1 108 y := fun y hy h6 a b c => by
    unfold bkC
    rw [st_8 _ h6, q.2.2.1 y a b c, th_8 _ hy, kp_r _ _ _ _ (by decide), dl_r _ _ (by decide) (by decide)]
  have hN : bkX (bkC M n W L) (n + 1) (nwF F n W L) := by
    refine bkX_ng hB1 n20 ok (drw_l M L) (fun k a b => ?_) (fun k a => ?_) (fun k a x y z => ?_) ql w1 w8 ho
    · rw [q.1 k (by omega) (by omega) (by omega), th_r _ (by omega)]
    · rw [q.1 k (by omega) (by omega) (by omega), th_r _ (by omega), kp_r _ _ _ _ (by omega)]
    · rw [q.2.2.2 k a x y z, th_r _ (by omega), kp_r _ _ _ _ (by omega)]
  refine ⟨⟨fun k a b c d f g x y => e k a b c d f g (by omega) (by omega), ?_, fun y a b c d f => e8 y a b c d f⟩, ⟨n, F, n + 1, _, hB, hN, by omega, fun c hc => nw_o (by omega)⟩⟩
  have e2 : (bkC M n W L).2 = (llM (th0 (kpM (dlM M L) n L.length W)) n L).2 := rfl
  rw [e2, q.2.1]
  rfl
theorem zg_rg (Z : Nat → bk_X) (k : Nat) : ((List.range k).map Z).length = k ∧ ∀ j, j < k → zg ((List.range k).map Z) j = Z j := by
  have hl : ((List.range k).map Z).length = k := by rw [List.length_map, List.length_range]
  refine ⟨hl, fun j hj => ?_⟩
  unfold zg
  rw [List.getD_eq_getElem?_getD, List.getElem?_eq_getElem (by rw [hl]; exact hj), List.getElem_map, List.getElem_range]
  rfl
/-- what least changes -/
def leF (M N : mm_M) : Prop := (∀ k, k ≠ 9 → k ≠ 10 → k ≠ 11 → k ≠ 12 → k ≠ 13 → k ≠ 73 → k ≠ 78 → k ≠ 108 → (k < 110 ∨ 118 ≤ k) → k ≠ 193 → k ≠ 194 → N.1 k = M.1 k) ∧ N.2 = M.2 ∧ ∀ y, y ≠ 0 → y ≠ 6 → y ≠ 36 → y ≠ 37 → y ≠ 38 → y ≠ 135 → N.1 108 y = M.1 108 y
theorem leG {n k : Nat} {B : Nat → Nat × List bk_X} {F : Nat → Int32} {Z : Nat → bk_X} {f p f2 l : Nat → Int32} (hB : bkX M n B) (n20 : n < 20) (k8 : k ≤ 8) (hF : ∀ j, j < k → F j = nI (bk_p (Z j))) (hZ : ∀ j, j < k → ogd 3 (Z j)) : leF M (leM M n k F Z f p f2 l) ∧ bgG M (leM M n k F Z f p f2 l) := by
  obtain ⟨z1, z2⟩ := zg_rg Z k
  generalize hL : (List.range k).map Z = L at z1 z2
  generalize hM1 : mm_i (mm_i M 78 f) 73 p = M1
  have m1 : ∀ q, q ≠ 73 → q ≠ 78 → M1.1 q = M.1 q := fun q a c => by rw [← hM1, mm_ne _ _ _ _ a, mm_ne _ _ _ _ c]
  have m2 : M1.2 = M.2 := by rw [← hM1]; rfl
  generalize hN1 : drM M1 F k = N1
  have n1 : ∀ q, q ≠ 13 → q ≠ 9 → N1.1 q = M1.1 q := fun q a c => by rw [← hN1, dr_r _ _ _ a c]
  have n2 : N1.2 = M1.2 := by rw [← hN1]; rfl
  have hd : drw N1 L := by
    refine ⟨by rw [← hN1, dr_9, z1]; exact up_at, fun j hj => ?_⟩
    have : j < k := by omega
    rw [← hN1, dr_13, z2 j this]
    exact (if_pos this).trans (hF j this)
  have hB1 : bkX N1 n B := bkX_cc (by rw [← hN1, dr_9, up_ne (by decide), m1 9 (by decide) (by decide)]) (fun k a b => by rw [n1 k (by omega) (by omega), m1 k (by omega) (by omega)]) (fun k a => by rw [n1 k (by omega) (by omega), m1 k (by omega) (by omega)]) (fun k a x y _ => by rw [n1 k (by omega) (by omega), m1 k (by omega) (by omega)]) (by rw [n1 108 (by decide) (by decide), m1 108 (by decide) (by decide)]) hB
  have ok : okL L := ⟨by omega, by have := hcl_le L; omega⟩
  have ho : ∀ x ∈ L, ogd 3 x := zg_all.mp (fun j hj => by rw [z2 j (by omega)]; exact hZ j (by omega))
  generalize hN2 : lyM (faM (th0 (kpM N1 n k 3)) f2 l) n Z k 0 = N2
  have a1 : ∀ q, q ≠ 108 → ¬ (112 ≤ q ∧ q ≤ 117) → q ≠ 193 → q ≠ 194 → N2.1 q = (kpM N1 n k 3).1 q := fun q a c d e => by
    rw [← hN2, ly_r _ _ _ _ _ a c]
    unfold faM
    rw [mm_ne _ _ _ _ e, mm_ne _ _ _ _ d, mm_ne _ _ _ _ a, th_r _ a]
  have fa : ∀ q, q ≠ 108 → q ≠ 193 → q ≠ 194 → ¬ (9 ≤ q ∧ q ≤ 12) → (faM (th0 (kpM N1 n k 3)) f2 l).1 q = N1.1 q := fun q a c d e => by
    unfold faM
    rw [mm_ne _ _ _ _ d, mm_ne _ _ _ _ c, mm_ne _ _ _ _ a, th_r _ a, kp_r _ _ _ _ e]
  have a8 : ∀ y, y ≠ 0 → y ≠ 36 → y ≠ 37 → y ≠ 38 → y ≠ 135 → N2.1 108 y = M.1 108 y := fun y a c d e g => by
    rw [← hN2, ly_108, up_ne e, up_ne d, up_ne c]
    unfold faM
    rw [mm_ne _ _ _ _ (by decide), mm_ne _ _ _ _ (by decide), mm_i1, up_ne g, th_8 _ a, kp_r _ _ _ _ (by decide), n1 108 (by decide) (by decide), m1 108 (by decide) (by decide)]
  have eM : leM M n k F Z f p f2 l = stM N2 n 3 := by rw [← hN2, ← hN1, ← hM1]; rfl
  have lo : ∀ (g h : Nat → Int32) (a : Nat), a < 300 * n → lwR g h (300 * n) k a = g a := fun g h a ha => if_neg (by omega)
  have li : ∀ (g h : Nat → Int32) (j : Nat), j < k → lwR g h (300 * n) k (300 * n + j) = h j := fun g h j hj => (if_pos (by omega)).trans (by rw [show 300 * n + j - 300 * n = j by omega])
  have hN : bkX (stM N2 n 3) (n + 1) (nwF B n 3 L) := by
    refine bkX_ng hB1 n20 ok hd (fun q a c => ?_) (fun q a => ?_) (fun q a x y z => ?_) ⟨fun _ => ⟨?_, ?_, fun j hj => ?_⟩, fun no => absurd ok no⟩ (by decide) (by decide) ho
    · rw [a1 q (by omega) (by omega) (by omega) (by omega), z1]
    · rw [a1 q (by omega) (by omega) (by omega) (by omega), kp_r _ _ _ _ (by omega)]
    · rw [← hN2, ← fa q (by omega) (by omega) (by omega) (by omega)]
      have : q = 112 ∨ q = 113 ∨ q = 114 ∨ q = 115 ∨ q = 116 ∨ q = 117 := by omega
      rcases this with rfl | rfl | rfl | rfl | rfl | rfl
      · rw [ly_112]; exact lo _ _ a z
      · rw [ly_113]; exact lo _ _ a z
      · rw [ly_114]; exact lo _ _ a z
      · rw [ly_115]; exact lo _ _ a z
      · rw [ly_116]; exact lo _ _ a z
      · rw [ly_117]; exact lo _ _ a z
    · rw [← hN2, ly_108]
      exact up_at
    · rw [← hN2, ly_108, up_ne (by decide), up_ne (by decide), z1]
      exact up_at
    · have hj : j < k := by omega
      rw [← hN2, z2 j hj, ly_112, ly_113, ly_114, ly_115, ly_116, ly_117, li _ _ j hj, li _ _ j hj, li _ _ j hj, li _ _ j hj, li _ _ j hj, li _ _ j hj]
      exact ⟨rfl, rfl, rfl, rfl, rfl, rfl⟩
  rw [eM]
  refine ⟨⟨fun q a b c d e g h i j x y => ?_, ?_, fun y a b c d e g => by rw [st_8 _ b, a8 y a c d e g]⟩, ⟨n, B, n + 1, _, hB, hN, by omega, fun c hc => nw_o (by omega)⟩⟩
  · rw [st_r _ i (by omega) (by omega), a1 q i (by omega) x y, kp_r _ _ _ _ (by omega), n1 q e a, m1 q g h]
  · show N2.2 = M.2
    rw [← hN2]
    show N1.2 = M.2
    rw [n2, m2]
theorem og_ls : ∀ g, g < 12 → (lsC g).testBit (g / 4) = false := by decide +kernel
end IVH
