/-! THE CLASS'S step -/
/-- an OP that is sound: its WIRES stand apart -/
def ogd (W : Nat) (x : bk_X) : Prop := bk_w W x ∧ x.2.2.2.1.testBit x.2.1 = false ∧ (x.1 = 8 → x.2.2.1 < W ∧ x.2.1 ≠ x.2.2.1 ∧ x.2.2.2.1.testBit x.2.2.1 = false)
theorem ogd_a {W : Nat} {x : bk_X} (h : ogd W x) : apo x.1 x.2.1 x.2.2.1 x.2.2.2.1 W := ⟨h.1.2.1, h.1.2.2.2.1, h.2.1, h.2.2⟩
theorem xz0 {a c : Nat} (h : a ^^^ c = 0) : a = c := by
  have e : a ^^^ c ^^^ c = a := xx_c a c
  rw [h, Nat.zero_xor] at e
  exact e.symm
theorem xz {a b : Nat} : a ^^^ (a &&& b) = 0 ↔ b &&& a = a := by
  rw [Nat.and_comm b a]
  constructor
  · intro e
    exact (xz0 e).symm
  · intro e
    rw [e, Nat.xor_self]
theorem al_lt {a b n : Nat} (h : a < 2 ^ n) : a &&& b < 2 ^ n := by
  rw [Nat.and_comm]
  exact Nat.and_lt_two_pow _ h
theorem ax_lt {a b n : Nat} (h : a < 2 ^ n) : a ^^^ (a &&& b) < 2 ^ n := Nat.xor_lt_two_pow h (al_lt h)
section STP
variable {d : Nat} {M : mm_M} {g : Nat → Int64}
set_option maxRecDepth 100000 in
theorem ct_step {W k dn tk b : Nat} {xs : Nat → R4} {gv : Int32} {tape : Int64} {x : bk_X} (w8 : W ≤ 8) (hog : ogd W x) (htk : tk < 2 ^ 30) (hb : b < 2 ^ 8) (hT : M.2 17 11 = tape) (hs : M.1 18 2 = nI (2 ^ W)) (hbd : ∀ j, j < 2 ^ W → bd (xs j)) : am_M (d + 5) false nm_X4_step [aR 17, aI (nI (bk_p x))] (cF M (c17 (M.1 17) dn tk b gv) (upd (M.1 18) 3 (nI k)) (cq g (2 ^ W) xs)) (am_q0 (cF M (c17 (M.1 17) (dn + 1) (ast W tape x (k, xs, tk, b)).2.2.1 (ast W tape x (k, xs, tk, b)).2.2.2 (-1)) (upd (M.1 18) 3 (nI (ast W tape x (k, xs, tk, b)).1)) (cq g (2 ^ W) (ast W tape x (k, xs, tk, b)).2.1))) := by
  have ow := hog.1
  have hap := ogd_a hog
  have ht := ow.2.1
  have hsec := ow.2.2.1
  have ho := ow.2.2.2.2.1
  have hz := ow.2.2.2.2.2
  have hk10 := ow.1
  have hN := w256 w8
  have rb : ∀ dn gv, (cF M (c17 (M.1 17) dn tk b gv) (upd (M.1 18) 3 (nI k)) (cq g (2 ^ W) xs)).1 17 9 = nI b := fun _ _ => rfl
  have r17 : ∀ dn gv, (cF M (c17 (M.1 17) dn tk b gv) (upd (M.1 18) 3 (nI k)) (cq g (2 ^ W) xs)).1 17 = c17 (M.1 17) dn tk b gv := fun _ _ => rfl
  have h1 : (x.2.2.2.2.1 ^^^ (x.2.2.2.2.1 &&& b)) < 2 ^ 8 := ax_lt (by omega)
  have h2 : b &&& x.2.2.2.2.2 < 2 ^ 8 := al_lt hb
  refine ⟨rfl, rfl, rfl, fun X hX => am_run hX 17 _ _ _ _ ?_⟩
  conv => whnf
  rw [show (cF M (c17 (M.1 17) dn tk b gv) (upd (M.1 18) 3 (nI k)) (cq g (2 ^ W) xs)).1 17 7 = nI dn from rfl, nI_1, cF_17, r17, c17_7, cF_17]
  rw [show (cF M (c17 (M.1 17) (dn + 1) tk b gv) (upd (M.1 18) 3 (nI k)) (cq g (2 ^ W) xs)).1 17 = c17 (M.1 17) (dn + 1) tk b gv from rfl, c17_10]
  refine am_c1 (ct_onesOf (d := d + 3)) ?_
  rw [bk_oo w8 ow]
  conv => whnf
  rw [rb, nI_andn, show (0 : Int32) = nI 0 from rfl, nI_eq (by omega) (by omega), xz]
  refine ⟨fun hc => ?_, fun hc => ?_⟩
  · have e : (ast W tape x (k, xs, tk, b)) = (k, xs, tk, b) := by
      unfold ast
      rw [if_neg (fun q => hc q.1)]
    rw [e] at hX
    refine am_run hX 2 _ _ _ _ ?_
    conv => whnf
    exact ⟨trivial, rfl, rfl⟩
  have hc : b &&& x.2.2.2.2.1 = x.2.2.2.2.1 := Decidable.byContradiction hc
  refine am_run hX 6 _ _ _ _ ?_
  conv => whnf
  refine am_c1 (ct_zerosOf (d := d + 3)) ?_
  rw [bk_zz w8 ow]
  conv => whnf
  rw [rb, nI_and, Nat.and_comm x.2.2.2.2.2 b, show (0 : Int32) = nI 0 from rfl, nI_eq (by omega) (by omega)]
  refine ⟨fun hc2 => ?_, fun hc2 => ?_⟩
  · refine am_run hX 6 _ _ _ _ ?_
    conv => whnf
    refine am_c1 (ct_kind (d := d + 3)) ?_
    rw [bk_k w8 ow]
    conv => whnf
    by_cases h9 : x.1 < 9
    · refine ⟨fun c => absurd c (nI_ge (a := x.1) (b := 9) h9 (by decide)), fun _ => ?_⟩
      by_cases h3 : x.1 = 3
      · have e : (ast W tape x (k, xs, tk, b)) = (k + 1, gx x.1 x.2.1 x.2.2.1 x.2.2.2.1 false (2 ^ W) xs, tk, b) := by
          unfold ast
          rw [if_pos ⟨hc, hc2⟩, if_pos h9, if_pos h3]
        rw [e] at hX
        have key := ct_apH20 (d := d + 1) (M := mm_i (mm_i M 17 (c17 (M.1 17) (dn + 1) tk b (-1))) 18 (upd (M.1 18) 3 (nI k))) (g := g) (sh := 0) (mi := false) (xs := xs) w8 w8 ow hs (by rw [Nat.pow_zero, Nat.mul_one]; exact hap) h3 (by decide)
        rw [Nat.pow_zero, Nat.mul_one, Nat.add_zero, Nat.add_zero] at key
        refine am_run hX 7 _ _ _ _ ?_
        conv => whnf
        refine am_c0 key ?_
        conv => whnf
        refine ⟨trivial, rfl, ?_⟩
        rw [mm_i1, upd_two, show upd (M.1 18) 3 (nI k) 3 + 1 = nI (k + 1) from nI_1 k, mm_ii]
        rfl
      · have e : (ast W tape x (k, xs, tk, b)) = (k, gx x.1 x.2.1 x.2.2.1 x.2.2.2.1 false (2 ^ W) xs, tk, b) := by
          unfold ast
          rw [if_pos ⟨hc, hc2⟩, if_pos h9, if_neg h3]
        rw [e] at hX
        have key := ct_apN20 (d := d) (M := mm_i (mm_i M 17 (c17 (M.1 17) (dn + 1) tk b (-1))) 18 (upd (M.1 18) 3 (nI k))) (g := g) (sh := 0) (mi := false) (xs := xs) w8 w8 ow hs (by rw [Nat.pow_zero, Nat.mul_one]; exact hap) (by omega) h3 (by decide)
        rw [Nat.pow_zero, Nat.mul_one, Nat.add_zero, Nat.add_zero] at key
        refine am_run hX 7 _ _ _ _ ?_
        conv => whnf
        refine am_c0 key ?_
        conv => whnf
        exact ⟨trivial, rfl, rfl⟩
    · refine ⟨fun _ => ?_, fun c => absurd (nI_le (a := 9) (by omega) (by omega)) c⟩
      refine am_run hX 10 _ _ _ _ ?_
      conv => whnf
      refine am_c1 (ct_wireOf (d := d + 3)) ?_
      rw [bk_wi w8 ow]
      conv => whnf
      rw [sh2 _ (by omega)]
      refine am_c1 (ct_observe (d := d + 1) (M := M) (g := g) (tape := tape) w8 ht htk hT hs hbd) ?_
      have v2 := obV_2 tape tk xs x.2.1 (2 ^ W)
      have rb2 : ∀ v, (cF M (c17 (M.1 17) (dn + 1) (obT tk xs x.2.1 (2 ^ W)) b (-1)) (upd (M.1 18) 3 (nI k)) (cq g (2 ^ W) (obX v xs x.2.1))).1 17 9 = nI b := fun _ => rfl
      conv => whnf
      by_cases hk9 : x.1 = 9
      · rw [hk9]
        refine ⟨fun c => absurd rfl c, fun _ => ?_⟩
        refine am_run hX 9 _ _ _ _ ?_
        conv => whnf
        refine am_c1 (ct_secondOf (d := d + 3)) ?_
        rw [bk_s w8 ow]
        conv => whnf
        rw [sh2 _ (by omega)]
        by_cases hv : obV tape tk xs x.2.1 (2 ^ W) = 1
        · have e : (ast W tape x (k, xs, tk, b)) = (k, obX (obV tape tk xs x.2.1 (2 ^ W)) xs x.2.1, obT tk xs x.2.1 (2 ^ W), b ||| 2 ^ x.2.2.1) := by
            unfold ast
            rw [if_pos ⟨hc, hc2⟩, if_neg h9, if_pos hk9, if_pos hv]
          rw [e] at hX
          rw [hv] at hX ⊢
          refine ⟨fun c => absurd rfl c, fun _ => ?_⟩
          refine am_run hX 20 _ _ _ _ ?_
          conv => whnf
          rw [rb2, nI_or]
          refine ⟨trivial, rfl, ?_⟩
          rw [cF_17, show (cF M (c17 (M.1 17) (dn + 1) (obT tk xs x.2.1 (2 ^ W)) b (-1)) (upd (M.1 18) 3 (nI k)) (cq g (2 ^ W) (obX 1 xs x.2.1))).1 17 = c17 (M.1 17) (dn + 1) (obT tk xs x.2.1 (2 ^ W)) b (-1) from rfl, c17_9]
        · have hv0 : obV tape tk xs x.2.1 (2 ^ W) = 0 := by omega
          have e : (ast W tape x (k, xs, tk, b)) = (k, obX (obV tape tk xs x.2.1 (2 ^ W)) xs x.2.1, obT tk xs x.2.1 (2 ^ W), b ^^^ (b &&& 2 ^ x.2.2.1)) := by
            unfold ast
            rw [if_pos ⟨hc, hc2⟩, if_neg h9, if_pos hk9, if_neg hv]
          rw [e] at hX
          rw [hv0] at hX ⊢
          refine ⟨fun _ => ?_, fun c => absurd (by decide) c⟩
          refine am_run hX 20 _ _ _ _ ?_
          conv => whnf
          rw [rb2, nI_andn]
          refine ⟨trivial, rfl, ?_⟩
          rw [cF_17, show (cF M (c17 (M.1 17) (dn + 1) (obT tk xs x.2.1 (2 ^ W)) b (-1)) (upd (M.1 18) 3 (nI k)) (cq g (2 ^ W) (obX 0 xs x.2.1))).1 17 = c17 (M.1 17) (dn + 1) (obT tk xs x.2.1 (2 ^ W)) b (-1) from rfl, c17_9]
      · refine ⟨fun _ => ?_, fun c => absurd ((nI_eq (a := x.1) (b := 9) (by omega) (by decide)).mp (Decidable.byContradiction c)) hk9⟩
        refine am_run hX 3 _ _ _ _ ?_
        conv => whnf
        by_cases hv : obV tape tk xs x.2.1 (2 ^ W) = 1
        · have e : (ast W tape x (k, xs, tk, b)) = (k, gx 0 x.2.1 0 0 false (2 ^ W) (obX 1 xs x.2.1), obT tk xs x.2.1 (2 ^ W), b) := by
            unfold ast
            rw [if_pos ⟨hc, hc2⟩, if_neg h9, if_neg hk9, if_pos hv]
          rw [e] at hX
          rw [hv]
          refine ⟨fun c => absurd rfl c, fun _ => ?_⟩
          have w1 : bk_w W (o1 0 x.2.1) := ⟨Nat.zero_le _, ht, (show 0 < 8 by decide), Nat.two_pow_pos W, (show 0 < 16 by decide), (show 0 < 16 by decide)⟩
          have key := ct_apN20 (d := d) (M := mm_i (mm_i M 17 (c17 (M.1 17) (dn + 1) (obT tk xs x.2.1 (2 ^ W)) b (-1))) 18 (upd (M.1 18) 3 (nI k))) (g := g) (sh := 0) (mi := false) (x := o1 0 x.2.1) (xs := obX 1 xs x.2.1) w8 w8 w1 hs ⟨ht, by rw [Nat.pow_zero, Nat.mul_one]; exact Nat.two_pow_pos W, Nat.zero_testBit _, fun q => absurd (show (0 : Nat) = 8 from q) (by decide)⟩ (show 0 ≤ 8 by decide) (show ¬ 0 = 3 by decide) (by decide)
          rw [Nat.pow_zero, Nat.mul_one, Nat.add_zero, Nat.add_zero] at key
          refine am_run hX 30 _ _ _ _ ?_
          conv => whnf
          refine am_c1 (ct_wireOf (d := d + 3)) ?_
          rw [bk_wi w8 ow]
          conv => whnf
          refine am_c1 (pk_1 (d := d + 3) (k := 0) (by decide) (by omega)) ?_
          conv => whnf
          refine am_c0 key ?_
          conv => whnf
          exact ⟨trivial, rfl, rfl⟩
        · have hv0 : obV tape tk xs x.2.1 (2 ^ W) = 0 := by omega
          have e : (ast W tape x (k, xs, tk, b)) = (k, obX 0 xs x.2.1, obT tk xs x.2.1 (2 ^ W), b) := by
            unfold ast
            rw [if_pos ⟨hc, hc2⟩, if_neg h9, if_neg hk9, if_neg hv]
          rw [e] at hX
          rw [hv0]
          refine ⟨fun _ => ?_, fun c => absurd (by decide) c⟩
          refine am_run hX 2 _ _ _ _ ?_
          conv => whnf
          exact ⟨trivial, rfl, rfl⟩
  · have e : (ast W tape x (k, xs, tk, b)) = (k, xs, tk, b) := by
      unfold ast
      rw [if_neg (fun q => hc2 q.2)]
    rw [e] at hX
    refine am_run hX 2 _ _ _ _ ?_
    conv => whnf
    exact ⟨trivial, rfl, rfl⟩
end STP
