/-! a bit of a long, by both shifts -/
theorem gm_sh (r y : Int64) : ((r.toUInt64 >>> (y.toUInt64 &&& Int64.toUInt64 63)).toInt64.toInt32 &&& 1) = ((r >>> (y &&& 63)) &&& 1).toInt32 := by
  apply Int32.toBitVec_inj.mp
  apply BitVec.eq_of_getLsbD_eq
  intro i hi
  by_cases i0 : i = 0
  · subst i0
    have hn : y.toBitVec.toNat &&& 63 < 64 := Nat.lt_of_le_of_lt Nat.and_le_right (by decide)
    have hm : (y.toBitVec &&& 63#64).msb = false := by
      rw [BitVec.msb_and, show (63#64).msb = false by decide]
      exact Bool.and_false _
    have hs : ((y.toBitVec &&& 63#64).smod 64#64).toNat = y.toBitVec.toNat &&& 63 := by
      rw [BitVec.smod, hm, show (64#64).msb = false by decide]
      show ((y.toBitVec &&& 63#64) % 64#64).toNat = _
      rw [BitVec.toNat_umod, BitVec.toNat_and]
      exact Nat.mod_eq_of_lt hn
    simp
    rw [hs, Nat.mod_eq_of_lt hn]
    simp [BitVec.getElem_signExtend, BitVec.getElem_sshiftRight, BitVec.getLsbD_eq_getElem, hn]
  · simp [i0]
theorem gm_T (r : Int64) (p q s t : Int32) : gm_T1 r p q s t = gm_T2 r p q s t := gm_sh r (gm_pl p q s t).toInt64
theorem gm_k1 : ∀ k, k < 256 → nI k >>> ((4 : Int32) &&& 31) = nI k / 16 := by decide +kernel
theorem gm_k2 : ∀ k, k < 256 → nI k &&& 15 = nI k - nI k / 16 * 16 := by decide +kernel
theorem gm_w (r : Int64) (k : Nat) (hk : k < 256) : gm_w1 r k = gm_w2 r k := by
  unfold gm_w1 gm_w2
  rw [gm_k1 k hk, gm_k2 k hk]
  exact congrArg (fun T => gm_out T 4 0 0) (funext fun s => funext fun t => gm_T r _ _ s t)
theorem gm_f (r : Int64) : ∀ (n k : Nat) (s : Int32 × Int32), k + n ≤ 256 → gm_fd (gm_w1 r) n k s = gm_fd (gm_w2 r) n k s
  | 0, _, _, _ => by simp only [gm_fd]
  | n + 1, k, s, h => by
    show gm_fd (gm_w1 r) n (k + 1) (gm_st (gm_w1 r) k s) = gm_fd (gm_w2 r) n (k + 1) (gm_st (gm_w2 r) k s)
    rw [gm_f r n (k + 1) _ (by omega)]
    unfold gm_st
    rw [gm_w r k (by omega)]
section GMP
variable {ac : Nat → ClassId} {lo : Nat} {ad as : Nat → Nat} {b L : Nat} {xs : Nat → Int32} {hp : mm_M → Nat → xm_H} {I J : mm_M → Prop}
theorem pr_game (H : mm_L ac lo hp) (h1 : ∀ M, I M → M.1 0 18 = M.1 108 147) (hJ : ∀ M v, I M → J (mm_i (mm_i M 0 (upd (M.1 0) 18 v)) 108 (upd (upd (M.1 108) 0 0) 147 v))) (r : Int64) : la_I ac lo ad as b L xs hp I J nm_X11_game nm_X12_game [.long r] := by
  refine am_la_I (us := [aJ r]) H fun M hI => ?_
  refine am_wk (gm_1 998 r M) fun r1 M1 h => ⟨(gm_fd (gm_w1 r) 256 0 (-1, M.1 0 18)).1, h.1, ?_⟩
  rw [h.2]
  refine am_wk (gm_2 998 r _) fun r2 M2 h => ?_
  rw [mm_ne _ 0 108 _ (by decide), ← h1 M hI, ← gm_f r 256 0 _ (Nat.le_refl _)] at h
  refine ⟨h.1, ?_⟩
  rw [h.2]
  exact hJ M _ hI
end GMP
