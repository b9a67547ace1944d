/-! mix: the pair -/
/-- de_d without the sum -/
def de_0 (M : mm_M) (w k : Nat) (xs : Nat → R4) : Prop := 1 ≤ w ∧ w ≤ 3 ∧ k ≤ 120 ∧ M.1 104 1 = nI w ∧ M.1 108 88 = nI w ∧ M.1 105 2 = nI (2 ^ (2 * w)) ∧ M.1 105 3 = nI k ∧ M.1 104 2 = M.1 108 89 ∧ M.1 104 3 = M.1 108 90 ∧ (∀ c, c < 2 ^ (2 * w) → rt_at M 107 c (xs c)) ∧ ∀ i j, i < 2 ^ w → j < 2 ^ w → rf_at M 162 (8 * i + j) (red k (xs (i + 2 ^ w * j)))
theorem de_0d {M : mm_M} {w k : Nat} {xs : Nat → R4} (h : de_0 M w k xs) (hs : sI (fun c => nrm (xs c)) (2 ^ (2 * w)) ≤ 2 ^ k) : de_d M w k xs := by
  obtain ⟨h1, h2, h3, h4, h5, h6, h7, h8, h9, h10, h11⟩ := h
  exact ⟨h1, h2, h3, h4, h5, h6, h7, h8, h9, h10, h11, hs⟩
section MXV
variable {W K a : Nat} {M N : mm_M} {xs : Nat → R4} {x : bk_X}
/-- all but a reset keeps the sum within the power -/
theorem mx_sum (hW : W ≤ 3) (hg : ogd W x) (h : ¬ x.1 = 10) (hs : sI (fun c => nrm (xs c)) (2 ^ (2 * W)) ≤ 2 ^ K) : sI (fun c => nrm (mxN W x xs c)) (2 ^ (2 * W)) ≤ 2 ^ mxK x K := by
  by_cases k9 : x.1 < 9
  · have eN : mxN W x xs = mxG W x xs := if_pos k9
    have s := mx_nrm (xs := xs) hW hg
    rw [eN, s]
    unfold mxK
    by_cases k3 : x.1 = 3
    · rw [if_pos k3, if_pos k3, Int.pow_add, Int.mul_comm]
      have : (2 : Int) ^ 2 = 4 := rfl
      rw [this]
      omega
    · rw [if_neg k3, if_neg k3]
      exact hs
  · have eN : mxN W x xs = wpN W x.2.1 xs := by
      unfold mxN
      rw [if_neg k9, if_neg h]
    have eK : mxK x K = K := if_neg (by omega)
    rw [eN, eK]
    exact Int.le_trans (sI_le _ fun c _ => wp_n) hs
theorem mx_d0 (h : de_d M W K xs) (hK : mxK x K ≤ 120) (hf : mzF (mxM M (2 ^ (2 * W)) (mxA x a) (mxK x K) (mxN W x xs)) N (nI (mxA x a))) (hy : ceS N W (mxK x K) (fun a b => mxN W x xs (a + 2 ^ W * b))) : de_0 N W (mxK x K) (mxN W x xs) := by
  obtain ⟨h1, h2, h3, h4, h5, h6, h7, h8, h9, h10, h11, h12⟩ := h
  obtain ⟨f1, f2, f3, f4, f5, f6⟩ := hf
  refine ⟨h1, h2, hK, ?_, ?_, ?_, ?_, ?_, ?_, fun c hc => ?_, fun i j hi hj => ?_⟩
  · rw [f1 104 (by decide)]
    exact h4
  · rw [f2 88 (by decide) (by decide) (by decide)]
    exact h5
  · rw [f1 105 (by decide)]
    exact h6
  · rw [f1 105 (by decide)]
    rfl
  · rw [f1 104 (by decide), f4]
    rfl
  · rw [f1 104 (by decide), f2 90 (by decide) (by decide) (by decide)]
    exact h9
  · have e := f6 107 (by decide) (by decide) (by decide) (by decide) (by decide) (by decide)
    exact cq_rt (M := N) (c := 107) (e.trans rfl) hc
  · refine (at_rf ?_).mpr (hy i j hi hj)
    have := (vr_red (mxK x K) (mxN W x xs (i + 2 ^ W * j))).1
    omega
theorem ce_of (h : de_d M W K xs) : ceS M W K (fun a b => xs (a + 2 ^ W * b)) := fun i j hi hj => by
  have k120 := h.2.2.1
  have l := (vr_red K (xs (i + 2 ^ W * j))).1
  exact (at_rf (y := red K (xs (i + 2 ^ W * j))) (by omega)).mp (h.2.2.2.2.2.2.2.2.2.2.1 i j hi hj)
theorem cir_mx {n c Wc S q : Nat} {op : Nat → bk_X} {ys : Nat → R4} (h : cir M n c Wc S op) : cir (mxM M q a K ys) n c Wc S op := cir_e h rfl rfl rfl rfl rfl fun k u v => by
  show (if k = 105 then _ else if k = 104 then _ else M.1 k) = M.1 k
  rw [if_neg (by omega), if_neg (by omega)]
end MXV
section MXQ
variable {ac : Nat → ClassId} {lo : Nat} {ad as : Nat → Nat} {b L : Nat} {xs : Nat → Int32} {hp : mm_M → Nat → xm_H} {I J : mm_M → Prop}
theorem pr_mix (H : mm_L ac lo hp) (h1 : ∀ M, I M → de_z M ∧ ∃ n, bk_iv M n ∧ ∀ c, c < n → ∃ W S op, cir M n c W S op) (hJ0 : ∀ M, I M → J (th0 M)) (hJ : ∀ M N W K y x a, I M → de_d M W K y → ogd W x → (x.2.2.2.2.1 = 0 ∧ x.2.2.2.2.2 = 0) → M.1 104 2 = nI a → mzF (mxM M (2 ^ (2 * W)) (mxA x a) (mxK x K) (mxN W x y)) N (nI (mxA x a)) → de_0 N W (mxK x K) (mxN W x y) → de_k N (mxK x K) → J N) (p q : Int32) : la_I ac lo ad as b L xs hp I J nm_X11_mix nm_X12_mix [.int p, .int q] := by
  refine am_la_I (us := [aI p, aI q]) H fun M hI => ?_
  obtain ⟨hz, n, hb, hc⟩ := h1 M hI
  rcases hz with ⟨h104, h88⟩ | ⟨W, K, y, h, a, b, a24, b6, ka, kb, kK⟩
  · refine am_wk (mxX_00 (d := 999) h104) fun t M1 e => ⟨_, e.1, ?_⟩
    rw [e.2]
    exact am_wk (mxR_0 (d := 998) hb (Or.inl h88)) fun t M2 e => ⟨e.1, by rw [e.2]; exact hJ0 M hI⟩
  · have e4 := h.2.2.2.1
    have w1 := h.1
    have w3 := h.2.1
    have no : ((p < 0 ∨ nI n ≤ p) ∨ ∃ c W S, c < n ∧ p = nI c ∧ bk_c M c W S ∧ (q < 0 ∨ nI S ≤ q)) → am_M 1000 false nm_X11_mix [aR 0, aI p, aI q] M (fun r M1 => ∃ v, r = .inl (some (aI v)) ∧ am_M 1000 false nm_X12_mix [aR 108, aI p, aI q] M1 (fun r M2 => r = .inl (some (aI v)) ∧ J M2)) := fun z => by
      refine am_wk (mxX_g (d := 994) (p := p) (q := q) (b := 0) (Pp := am_q1 (aI 0) M) (by rw [e4]; exact fun y => by have := (nI_eq (b := 0) (by omega) (by decide)).mp y; omega) (by decide) (bk_ho0 (d := 997) hb z) (fun _ => ⟨rfl, rfl⟩) (fun y => absurd y (by decide))) fun t M1 e => ⟨_, e.1, ?_⟩
      rw [e.2]
      exact am_wk (mxR_0 (d := 998) hb (Or.inr z)) fun t M2 e => ⟨e.1, by rw [e.2]; exact hJ0 M hI⟩
    rcases bk_no (p := p) hb.1 with z | ⟨c, cn, rfl⟩
    · exact no (Or.inl z)
    · obtain ⟨Wc, S, op, hC⟩ := hc c cn
      by_cases q0 : q < 0
      · exact no (Or.inr ⟨c, Wc, S, cn, rfl, hC.2.2.1, Or.inl q0⟩)
      obtain ⟨j, j31, rfl⟩ := nI_of q0
      by_cases hj : j < S
      · have s300 := hC.2.2.1.2.2.1
        have og := (hC.2.2.2.1 j hj).1
        have e89 : M.1 108 89 = nI a := h.2.2.2.2.2.2.2.1.symm.trans ka
        have kk : ∀ Wd, mxO Wd j S Wc a op → mxK (op j) K ≤ 2 * mxA (op j) a + 12 * b ∧ mxA (op j) a ≤ 24 := fun Wd ok => by
          unfold mxK mxA
          by_cases k3 : (op j).1 = 3
          · have := ok.2.2.2 k3
            rw [if_pos k3, if_pos k3]
            omega
          · rw [if_neg k3, if_neg k3]
            omega
        refine am_wk (mxX_1 (d := 994) h hC ka a24 hj) ?_
        rintro t M1 (⟨nk, rfl, rfl⟩ | ⟨ok, rfl, rfl⟩)
        · refine ⟨_, rfl, am_wk (mxR_1 (d := 992) w1 w3 h.2.2.2.2.1 hC e89 a24 hj (fun z => absurd z nk) h.2.2.2.2.2.2.2.2.2.2.2 h.2.2.1 (ce_of h)) ?_⟩
          rintro t M2 (⟨_, rfl, rfl⟩ | ⟨ok, _⟩)
          · exact ⟨rfl, hJ0 _ hI⟩
          · exact absurd ok nk
        · obtain ⟨kk1, kk2⟩ := kk W ok
          have hK : mxK (op j) K ≤ 120 := by omega
          have C := ce_of h
          have C' : ceS (mxM M (2 ^ (2 * W)) (mxA (op j) a) (mxK (op j) K) (mxN W (op j) y)) W K (fun a b => y (a + 2 ^ W * b)) := C
          refine ⟨_, rfl, am_wk (mxR_1 (d := 992) (M := mxM M (2 ^ (2 * W)) (mxA (op j) a) (mxK (op j) K) (mxN W (op j) y)) (xs := y) w1 w3 h.2.2.2.2.1 (cir_mx hC) e89 a24 hj (fun _ => hK) h.2.2.2.2.2.2.2.2.2.2.2 h.2.2.1 C') ?_⟩
          rintro t M2 (⟨nk, _⟩ | ⟨_, rfl, f1, y1⟩)
          · exact absurd ok nk
          · have eW : Wc = W := ok.2.1
            refine ⟨rfl, hJ M M2 W K y (op j) a hI h (by rw [← eW]; exact og) ok.2.2.1 ka f1 (mx_d0 h hK f1 y1) ⟨mxA (op j) a, b, kk2, b6, ?_, ?_, kk1⟩⟩
            · rw [f1.1 104 (by decide)]
              rfl
            · rw [f1.1 104 (by decide)]
              exact kb
      · exact no (Or.inr ⟨c, Wc, S, cn, rfl, hC.2.2.1, Or.inr (nI_le (by omega) j31)⟩)
end MXQ
