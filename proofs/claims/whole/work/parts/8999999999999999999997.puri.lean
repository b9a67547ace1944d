/-! sums in another order -/
def sG {α : Type} (op : α → α → α) (z : α) (T : Nat → α) : Nat → α
  | 0 => z
  | n + 1 => op (sG op z T n) (T n)
section SGS
variable {α : Type} {op : α → α → α} {z : α}
theorem sG_e {T U : Nat → α} : ∀ n, (∀ i, i < n → T i = U i) → sG op z T n = sG op z U n
  | 0, _ => rfl
  | n + 1, h => by
    show op (sG op z T n) (T n) = op (sG op z U n) (U n)
    rw [sG_e n fun i hi => h i (by omega), h n (by omega)]
theorem sG_add (ha : ∀ a b c, op (op a b) c = op a (op b c)) (hz : ∀ a, op a z = a) (T : Nat → α) (n : Nat) : ∀ m, sG op z T (n + m) = op (sG op z T n) (sG op z (fun j => T (n + j)) m)
  | 0 => (hz _).symm
  | m + 1 => by
    show op (sG op z T (n + m)) (T (n + m)) = op (sG op z T n) (op (sG op z (fun j => T (n + j)) m) (T (n + m)))
    rw [sG_add ha hz T n m, ha]
theorem sG_blk (ha : ∀ a b c, op (op a b) c = op a (op b c)) (hz : ∀ a, op a z = a) (T : Nat → α) (N : Nat) : ∀ a, sG op z T (N * a) = sG op z (fun i => sG op z (fun j => T (N * i + j)) N) a
  | 0 => rfl
  | a + 1 => by
    show sG op z T (N * a + N) = op (sG op z _ a) (sG op z (fun j => T (N * a + j)) N)
    rw [sG_add ha hz, sG_blk ha hz T N a]
theorem sG_2 (ha : ∀ a b c, op (op a b) c = op a (op b c)) (hc : ∀ a b, op a b = op b a) (hz : ∀ a, op a z = a) (T U : Nat → α) : ∀ n, sG op z (fun i => op (T i) (U i)) n = op (sG op z T n) (sG op z U n)
  | 0 => (hz _).symm
  | n + 1 => by
    show op (sG op z _ n) (op (T n) (U n)) = op (op (sG op z T n) (T n)) (op (sG op z U n) (U n))
    rw [sG_2 ha hc hz T U n, ha, ha, ← ha (sG op z U n), hc (sG op z U n), ha]
theorem sG_z (hz : ∀ a, op a z = a) : ∀ n, sG op z (fun _ => z) n = z
  | 0 => rfl
  | n + 1 => by
    show op (sG op z _ n) z = z
    rw [hz, sG_z hz n]
theorem sG_x (ha : ∀ a b c, op (op a b) c = op a (op b c)) (hc : ∀ a b, op a b = op b a) (hz : ∀ a, op a z = a) (F : Nat → Nat → α) (b : Nat) : ∀ a, sG op z (fun i => sG op z (fun j => F i j) b) a = sG op z (fun j => sG op z (fun i => F i j) a) b
  | 0 => (sG_z hz b).symm
  | a + 1 => by
    show op (sG op z _ a) (sG op z (fun j => F a j) b) = sG op z (fun j => op (sG op z (fun i => F i j) a) (F a j)) b
    rw [sG_2 ha hc hz, sG_x ha hc hz F b a]
theorem sG_p (ha : ∀ a b c, op (op a b) c = op a (op b c)) (hc : ∀ a b, op a b = op b a) (hz : ∀ a, op a z = a) (f : Nat → α) {N : Nat} (hN : 0 < N) : sG op z (fun e => f (e / N + N * (e % N))) (N * N) = sG op z f (N * N) := by
  rw [sG_blk ha hz, sG_blk ha hz f]
  have e : sG op z (fun i => sG op z (fun j => f ((N * i + j) / N + N * ((N * i + j) % N))) N) N = sG op z (fun i => sG op z (fun j => f (N * j + i)) N) N := sG_e N fun i hi => sG_e N fun j hj => by
    rw [Nat.mul_add_div hN, Nat.div_eq_of_lt hj, Nat.add_zero, Nat.mul_add_mod, Nat.mod_eq_of_lt hj, Nat.add_comm]
  rw [e, sG_x ha hc hz]
end SGS
theorem sR_G (T : Nat → R4) : ∀ n, sR T n = sG ra (0, 0, 0, 0) T n
  | 0 => rfl
  | n + 1 => by
    show ra (sR T n) (T n) = ra (sG ra (0, 0, 0, 0) T n) (T n)
    rw [sR_G T n]
theorem sI_G (T : Nat → Int) : ∀ n, sI T n = sG (· + ·) 0 T n
  | 0 => rfl
  | n + 1 => by
    show sI T n + T n = sG (· + ·) 0 T n + T n
    rw [sI_G T n]
theorem ra_as (a b c : R4) : ra (ra a b) c = ra a (ra b c) := by
  unfold ra
  exact r4_e (by dsimp only; omega) (by dsimp only; omega) (by dsimp only; omega) (by dsimp only; omega)
theorem sR_p (f : Nat → R4) {N : Nat} (hN : 0 < N) : sR (fun e => f (e / N + N * (e % N))) (N * N) = sR f (N * N) := by
  rw [sR_G, sR_G]
  exact sG_p ra_as ra_c ra_0 f hN
theorem sI_p (f : Nat → Int) {N : Nat} (hN : 0 < N) : sI (fun e => f (e / N + N * (e % N))) (N * N) = sI f (N * N) := by
  rw [sI_G, sI_G]
  exact sG_p Int.add_assoc Int.add_comm Int.add_zero f hN
/-! purity, the reference -/
section PUF
variable {d w k : Nat} {M : mm_M} {xs : Nat → R4}
def pux (xs : Nat → R4) (w e : Nat) : R4 := xs (e / 2 ^ w + 2 ^ w * (e % 2 ^ w))
def puT (xs : Nat → R4) (w e : Nat) : R4 := mu (cj (pux xs w e)) (pux xs w e)
theorem n22 (w : Nat) : 2 ^ (2 * w) = 2 ^ w * 2 ^ w := by rw [← Nat.pow_add, show w + w = 2 * w by omega]
theorem pu_wt (c : Nat) : wtT xs 0 0 c = mu (cj (xs c)) (xs c) := by
  unfold wtT
  rw [if_pos (show nI c &&& 0 = 0 from Int32.and_zero)]
theorem pu_S : sR (puT xs w) (2 ^ (2 * w)) = sR (wtT xs 0 0) (2 ^ (2 * w)) := by
  have a := sR_p (wtT xs 0 0) (N := 2 ^ w) (Nat.pow_pos (by decide))
  rw [n22, ← a]
  have e : puT xs w = fun e => wtT xs 0 0 (e / 2 ^ w + 2 ^ w * (e % 2 ^ w)) := funext fun e => (pu_wt (xs := xs) (e / 2 ^ w + 2 ^ w * (e % 2 ^ w))).symm
  rw [e]
theorem pu_B (hs : sI (fun c => nrm (xs c)) (2 ^ (2 * w)) ≤ 2 ^ k) (k50 : k ≤ 60) : (∀ e, e < 2 ^ (2 * w) → bd (puT xs w e)) ∧ ∀ e, e ≤ 2 ^ (2 * w) → bd (sR (puT xs w) e) := by
  have h60 := p60 k50
  have e1 : sI (fun e => 2 * nrm (pux xs w e)) (2 ^ (2 * w)) ≤ 2 ^ 62 := by
    have a := sI_p (fun c => 2 * nrm (xs c)) (N := 2 ^ w) (Nat.pow_pos (by decide))
    rw [← n22] at a
    show sI (fun e => 2 * nrm (xs (e / 2 ^ w + 2 ^ w * (e % 2 ^ w)))) (2 ^ (2 * w)) ≤ 2 ^ 62
    rw [a, sI_2]
    omega
  have h0 : ∀ i, i < 2 ^ (2 * w) → 0 ≤ (fun e => 2 * nrm (pux xs w e)) i := fun i _ => by
    have := nrm0 (pux xs w i)
    show 0 ≤ 2 * nrm (pux xs w i)
    omega
  have hl : ∀ e, e < 2 ^ (2 * w) → lm ((fun e => 2 * nrm (pux xs w e)) e) (puT xs w e) := fun e _ => by
    have := wt_lm xs 0 0 (e / 2 ^ w + 2 ^ w * (e % 2 ^ w))
    rw [pu_wt] at this
    exact this
  exact ⟨fun i hi => sb_T h0 hl e1 hi, fun i hi => sb_S h0 hl e1 hi⟩
set_option maxRecDepth 100000 in
theorem pu_b {i j K : Nat} {q : Int32} {x Z : R4} {Pp : am_Q} {X : am_X} (hX : am_K (d + 3) false nm_X12_purity Pp X) (hi : i < 8) (hj : j < 8) (hK : K ≤ 120) (hx : at5 (M.2 162) (5 * (8 * i + j)) (red K x).1 (red K x).2) (b1 : bd (mu (cj x) x)) (b2 : bd (ra Z (mu (cj x) x))) (h : ∀ q' o f, X 110 [some (aR 108), some (aI q), some (aI (nI i)), some (aI (nI j))] [] (w4 M q' o f (ov (M.2 153) (red (2 * K) (ra Z (mu (cj x) x))).1 (red (2 * K) (ra Z (mu (cj x) x))).2))) (q' o f : Nat → Int64) : X 66 [some (aR 108), some (aI q), some (aI (nI i)), some (aI (nI j))] [] (w4 M q' o f (ov (M.2 153) (red (2 * K) Z).1 (red (2 * K) Z).2)) := by
  have v1 := vr_mu (vr_cj (vr_red K x)) (vr_red K x)
  rw [show K + K = 2 * K by omega] at v1
  have e1 := vr_u v1
  have v2 := vr_ra (vr_red (2 * K) (mu (cj x) x)) (vr_red (2 * K) Z)
  rw [ra_c _ Z] at v2
  have e2 := vr_u v2
  have l1 := (vr_red K x).1
  have l3 := (vr_red (2 * K) Z).1
  have l4 := (vr_red (2 * K) (mu (cj x) x)).1
  have hz : at5 ((w4 M q' o f (ov (M.2 153) (red (2 * K) Z).1 (red (2 * K) Z).2)).2 153) 0 (red (2 * K) Z).1 (red (2 * K) Z).2 := at_ov _ _ _
  refine am_run hX 6 _ _ _ _ ?_
  conv => whnf
  refine am_c1 (ct_cell (d := d + 2) i j) ?_
  conv => whnf
  refine am_run hX 1 _ _ _ _ ?_
  conv => whnf
  refine am_c0 (ct_ld162 (d := d + 2) (M := w4 M q' o f (ov (M.2 153) (red (2 * K) Z).1 (red (2 * K) Z).2)) (by omega) hx) ?_
  conv => whnf
  refine am_run hX 2 _ _ _ _ ?_
  conv => whnf
  refine am_c0 (ct_conj (d := d + 2)) ?_
  conv => whnf
  refine am_run hX 6 _ _ _ _ ?_
  conv => whnf
  refine am_c1 (ct_cell (d := d + 2) i j) ?_
  conv => whnf
  refine am_run hX 1 _ _ _ _ ?_
  conv => whnf
  refine am_c0 (ct_mul162 (d := d + 1) (M := w4 M q' o f (ov (M.2 153) (red (2 * K) Z).1 (red (2 * K) Z).2)) (by omega) (by omega) (by omega) hx (vr_bd v1 b1)) ?_
  rw [e1]
  conv => whnf
  refine am_run hX 6 _ _ _ _ ?_
  conv => whnf
  refine am_c0 (ct_add153p (d := d + 1) (a := 0) (by omega) (by omega) (by omega) hz (vr_bd v2 b2)) ?_
  rw [e2]
  conv => whnf
  refine am_run hX 2 _ _ _ _ ?_
  conv => whnf
  refine am_c0 (ct_keepS (d := d + 1)) ?_
  rw [w4_a, show (mm_l (w4 M q' o f (ov (M.2 153) (red (2 * K) Z).1 (red (2 * K) Z).2)) 119 _).2 153 = ov (M.2 153) (red (2 * K) Z).1 (red (2 * K) Z).2 from rfl, ov_ov]
  conv => whnf
  exact h _ _ _
set_option maxRecDepth 100000 in
theorem pu_j {i K : Nat} {q : Int32} {Pp : am_Q} {X : am_X} (hX : am_K (d + 3) false nm_X12_purity Pp X) (h : de_d M w k xs) (k60 : k ≤ 60) (hi : i < 2 ^ w) (hK : ∀ q' o f, X 116 [some (aR 108), some (aI q), some (aI (nI i)), some (aI (nI (2 ^ w)))] [] (w4 M q' o f (ov (M.2 153) (red (2 * k) (sR (puT xs w) (2 ^ w * (i + 1)))).1 (red (2 * k) (sR (puT xs w) (2 ^ w * (i + 1)))).2))) : ∀ m j, j + m = 2 ^ w → ∀ q' o f, X 56 [some (aR 108), some (aI q), some (aI (nI i)), some (aI (nI j))] [] (w4 M q' o f (ov (M.2 153) (red (2 * k) (sR (puT xs w) (2 ^ w * i + j))).1 (red (2 * k) (sR (puT xs w) (2 ^ w * i + j))).2)) := by
  have w3 := h.2.1
  have w8 : 2 ^ w ≤ 8 := (Nat.pow_le_pow_right (n := 2) (by decide) w3 : 2 ^ w ≤ 2 ^ 3)
  have e5 := h.2.2.2.2.1
  obtain ⟨B1, B2⟩ := pu_B h.2.2.2.2.2.2.2.2.2.2.2 k60
  intro m
  induction m with
  | zero =>
    intro j hj q' o f
    have hj : j = 2 ^ w := by omega
    subst hj
    refine am_run hX 6 _ _ _ _ ?_
    conv => whnf
    rw [show ∀ y, (w4 M q' o f y).1 108 88 = nI w from fun y => e5, sh2 w (by omega)]
    refine ⟨fun _ => ?_, fun c => absurd (nI_le (by omega) (by omega)) c⟩
    exact hK _ _ _
  | succ m ih =>
    intro j hj q' o f
    have lt : 2 ^ w * i + j < 2 ^ (2 * w) := by
      rw [n22]
      have : 2 ^ w * i + 2 ^ w ≤ 2 ^ w * 2 ^ w := by
        rw [← Nat.mul_succ]
        exact Nat.mul_le_mul_left _ hi
      omega
    have ej : j < 2 ^ w := by omega
    have px : pux xs w (2 ^ w * i + j) = xs (i + 2 ^ w * j) := by
      unfold pux
      rw [Nat.mul_add_div (by omega), Nat.div_eq_of_lt ej, Nat.add_zero, Nat.mul_add_mod, Nat.mod_eq_of_lt ej]
    have hr := (at_rf (by have := (vr_red k (xs (i + 2 ^ w * j))).1; omega)).mp (h.2.2.2.2.2.2.2.2.2.2.1 i j hi ej)
    have b1 := B1 _ lt
    have b2 := B2 (2 ^ w * i + j + 1) lt
    unfold puT at b1
    rw [px] at b1
    have es : sR (puT xs w) (2 ^ w * i + j + 1) = ra (sR (puT xs w) (2 ^ w * i + j)) (mu (cj (xs (i + 2 ^ w * j))) (xs (i + 2 ^ w * j))) := by
      show ra (sR (puT xs w) (2 ^ w * i + j)) (puT xs w (2 ^ w * i + j)) = _
      unfold puT
      rw [px]
    rw [es] at b2
    refine am_run hX 6 _ _ _ _ ?_
    conv => whnf
    rw [show ∀ y, (w4 M q' o f y).1 108 88 = nI w from fun y => e5, sh2 w (by omega)]
    refine ⟨fun c => absurd c (nI_ge (by omega) (by omega)), fun _ => ?_⟩
    refine pu_b (d := d) (K := k) (x := xs (i + 2 ^ w * j)) (Z := sR (puT xs w) (2 ^ w * i + j)) hX (by omega) (by omega) (by omega) hr b1 b2 (fun q2 o2 f2 => ?_) q' o f
    rw [← es]
    refine am_run hX 2 _ _ _ _ ?_
    conv => whnf
    rw [nI_1]
    exact ih (j + 1) (by omega) q2 o2 f2
set_option maxRecDepth 100000 in
theorem pu_i {q : Int32} {Pp : am_Q} {X : am_X} (hX : am_K (d + 3) false nm_X12_purity Pp X) (h : de_d M w k xs) (k60 : k ≤ 60) (hK : ∀ q' o f l3, X 122 [some (aR 108), some (aI q), some (aI (nI (2 ^ w))), l3] [] (w4 M q' o f (ov (M.2 153) (red (2 * k) (sR (puT xs w) (2 ^ (2 * w)))).1 (red (2 * k) (sR (puT xs w) (2 ^ (2 * w)))).2))) : ∀ m i, i + m = 2 ^ w → ∀ q' o f l3, X 44 [some (aR 108), some (aI q), some (aI (nI i)), l3] [] (w4 M q' o f (ov (M.2 153) (red (2 * k) (sR (puT xs w) (2 ^ w * i))).1 (red (2 * k) (sR (puT xs w) (2 ^ w * i))).2)) := by
  have w3 := h.2.1
  have w8 : 2 ^ w ≤ 8 := (Nat.pow_le_pow_right (n := 2) (by decide) w3 : 2 ^ w ≤ 2 ^ 3)
  have e5 := h.2.2.2.2.1
  intro m
  induction m with
  | zero =>
    intro i hi q' o f l3
    have hi : i = 2 ^ w := by omega
    subst hi
    refine am_run hX 6 _ _ _ _ ?_
    conv => whnf
    rw [show ∀ y, (w4 M q' o f y).1 108 88 = nI w from fun y => e5, sh2 w (by omega)]
    refine ⟨fun _ => ?_, fun c => absurd (nI_le (by omega) (by omega)) c⟩
    rw [← n22]
    exact hK _ _ _ _
  | succ m ih =>
    intro i hi q' o f l3
    refine am_run hX 6 _ _ _ _ ?_
    conv => whnf
    rw [show ∀ y, (w4 M q' o f y).1 108 88 = nI w from fun y => e5, sh2 w (by omega)]
    refine ⟨fun c => absurd c (nI_ge (by omega) (by omega)), fun _ => ?_⟩
    refine am_run hX 2 _ _ _ _ ?_
    conv => whnf
    refine pu_j (d := d) (K := k) hX h k60 (by omega) (fun q2 o2 f2 => ?_) (2 ^ w) 0 (by omega) q' o f
    refine am_run hX 2 _ _ _ _ ?_
    conv => whnf
    rw [nI_1]
    exact ih (i + 1) (by omega) q2 o2 f2 _
end PUF
