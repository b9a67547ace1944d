/-! THE REFERENCE'S settleSum, whole -/
theorem cnn_c {p p' : Nat → Bool} : ∀ n, (∀ j, j < n → p j = p' j) → cntN p n = cntN p' n
  | 0, _ => rfl
  | n + 1, h => by
    have e := cnn_c n fun j hj => h j (by omega)
    cases hp : p n with
    | true => rw [cnn_1 hp, cnn_1 (by rw [← h n (by omega)]; exact hp), e]
    | false => rw [cnn_0 hp, cnn_0 (by rw [← h n (by omega)]; exact hp), e]
theorem ev_h {v : Int64} (h : evJ v = true) : v / 2 = 0 ↔ v = 0 := by
  have e : v - v / 2 * 2 = 0 := of_decide_eq_true h
  have e2 : v = v / 2 * 2 := by
    have z := Int64.sub_add_cancel v (v / 2 * 2)
    rw [e, Int64.zero_add] at z
    exact z.symm
  constructor
  · intro z
    rw [z] at e2
    rw [e2]
    rfl
  · intro z
    rw [z]
    rfl
theorem nz_h {u v : Int64} (hu : evJ u = true) (hv : evJ v = true) : nzJ (u / 2) (v / 2) = nzJ u v := by
  unfold nzJ
  rw [decide_eq_decide, ev_h hu, ev_h hv]
theorem rtl_le (kk : Nat → Nat) (n : Nat) : ∀ k f g, (rtl kk n k f g).1 ≤ k
  | 0, _, _ => Nat.le_refl _
  | k + 1, f, g => by
    simp only [rtl]
    by_cases h : allN (fun j => evJ (f (kk j)) && evJ (g (kk j))) n = true
    · rw [if_pos h]
      have := rtl_le kk n k (hvF kk f n) (hvF kk g n)
      omega
    · rw [if_neg h]
      exact Nat.le_refl _
theorem rtl_nz {kk : Nat → Nat} {n : Nat} (hd : ∀ a b, a < n → b < n → kk a = kk b → a = b) : ∀ k f g j, j < n → nzJ ((rtl kk n k f g).2.1 (kk j)) ((rtl kk n k f g).2.2 (kk j)) = nzJ (f (kk j)) (g (kk j))
  | 0, _, _, _, _ => rfl
  | k + 1, f, g, j, hj => by
    simp only [rtl]
    by_cases h : allN (fun j => evJ (f (kk j)) && evJ (g (kk j))) n = true
    · rw [if_pos h, rtl_nz hd k _ _ j hj, hvF_i hd n (Nat.le_refl _) hj, hvF_i hd n (Nat.le_refl _) hj]
      have e := (all_iff n).mp h j hj
      rw [Bool.and_eq_true] at e
      exact nz_h e.1 e.2
    · rw [if_neg h]
/-- what settleSum keeps -/
def rOK (kk : Nat → Nat) (n c : Nat) (σ : Nat × (Nat → Int64) × (Nat → Int64)) : Bool := decide (c ≤ 150) && (decide (σ.1 ≤ 60) && allN (fun j => smJ (σ.2.1 (kk j)) && smJ (σ.2.2 (kk j))) n)
section SS4
variable {d n : Nat} {M : mm_M} {q t : Nat → Int32} {f g : Nat → Int64} {kk : Nat → Nat}
def sB (M : mm_M) (n : Nat) (q t : Nat → Int32) (σ : Nat × (Nat → Int64) × (Nat → Int64)) : mm_M := mm_i (mm_i (wF M n q t σ.2.1 σ.2.2) 141 (upd (M.1 141) 0 (nI 0))) 142 (upd (M.1 142) 0 (nI σ.1))
set_option maxRecDepth 100000 in
theorem ct_ssum {over c : Nat} (hn : n ≤ 22501) (ho : over < 2 ^ 30) (hq : ∀ j, j < n → kk j < 65536 ∧ q j = nI (kk j)) (hd : ∀ a b, a < n → b < n → kk a = kk b → a = b) (hc : c = cntN (fun j => nzJ (f (kk j)) (g (kk j))) n) : am_M (d + 3) false nm_X12_settleSum [aR 108, aI (nI over)] (wF M n q t f g) (fun r M' => ∃ σ, σ = rtl kk n (if c = 0 then 0 else over) f g ∧ ((rOK kk n c σ = true ∧ r = .inl (some (aI (nI c))) ∧ frm (sB M n q t σ) M' ∧ ∃ κ, rws M' κ c ∧ ∀ x, (∃ j, j < c ∧ κ j = x) ↔ ∃ j, j < n ∧ kk j = x ∧ nzJ (σ.2.1 x) (σ.2.2 x) = true) ∨ (rOK kk n c σ = false ∧ r = .inl (some (aI (-1))) ∧ M' = wF M n q t σ.2.1 σ.2.2))) := by
  have h0 : vp_in 0 2 := vp_in_nI (n := 0) (N := 2) (by decide) (by decide)
  have hcn : c ≤ n := by
    rw [hc]
    exact cnt_le _ _
  refine ⟨rfl, rfl, rfl, fun X hX => ?_⟩
  have fin : ∀ k, k = (if c = 0 then 0 else over) → X 68 [some (aR 108), some (aI (nI over)), some (aI (nI c)), some (aI (nI k)), none] [] (wF M n q t f g) := by
    intro k hk
    have hk2 : k < 2 ^ 30 := by
      by_cases h : c = 0
      · rw [if_pos h] at hk
        omega
      · rw [if_neg h] at hk
        omega
    rw [← hk] at hX
    have hle := rtl_le kk n k f g
    have hnz := rtl_nz hd k f g
    refine ss_2 (d := d + 1) (M := M) (t := t) hX hn hq k f g hk2 ?_
    generalize rtl kk n k f g = σ at *
    have hc2 : cntN (fun j => nzJ (σ.2.1 (kk j)) (σ.2.2 (kk j))) n = c := by
      rw [hc]
      exact cnn_c n fun j hj => hnz j hj
    by_cases h150 : c ≤ 150
    · refine am_run hX 3 _ _ _ _ ?_
      conv => whnf
      refine ⟨fun z => absurd z (nI_nlt (a := 150) (b := c) h150 (by decide)), fun _ => ?_⟩
      by_cases h60 : σ.1 ≤ 60
      · refine am_run hX 3 _ _ _ _ ?_
        conv => whnf
        refine ⟨fun z => absurd z (nI_nlt (a := 60) (b := σ.1) h60 (by decide)), fun _ => ?_⟩
        refine am_run hX 3 _ _ _ _ ?_
        conv => whnf
        refine am_c1 (ct_wSmall (d := d) hn hq) ?_
        cases ha : allN (fun j => smJ (σ.2.1 (kk j)) && smJ (σ.2.2 (kk j))) n with
        | false =>
          conv => whnf
          refine ⟨fun z => absurd rfl z, fun _ => ?_⟩
          refine am_run hX 3 _ _ _ _ ?_
          conv => whnf
          refine ⟨trivial, σ, rfl, Or.inr ⟨?_, rfl, rfl⟩⟩
          unfold rOK
          rw [ha, Bool.and_false, Bool.and_false]
        | true =>
          conv => whnf
          refine ⟨fun _ => ?_, fun z => absurd (by decide) z⟩
          refine am_run hX 12 _ _ _ _ ?_
          conv => whnf
          refine ⟨h0, ?_⟩
          conv => whnf
          refine ⟨h0, ?_⟩
          conv => whnf
          refine ss_3 (d := d + 1) (B := sB M n q t σ) (kk := kk) hX hn rfl hq hd (by show cntN (fun j => nzJ (σ.2.1 (kk j)) (σ.2.2 (kk j))) n ≤ 150; rw [hc2]; exact h150) (fun N κ hf hr hm => ?_) n 0 (sB M n q t σ) (fun _ => 0) (by omega) (frm_r _) ⟨rfl, Nat.zero_le _, fun i j _ hj => absurd hj (Nat.not_lt_zero _), fun j hj => absurd hj (Nat.not_lt_zero _)⟩ (fun x => ⟨fun ⟨j, hj, _⟩ => absurd hj (Nat.not_lt_zero _), fun ⟨j, hj, _⟩ => absurd hj (Nat.not_lt_zero _)⟩)
          have hr : rws N κ (cntN (fun j => nzJ (σ.2.1 (kk j)) (σ.2.2 (kk j))) n) := hr
          have hm : ∀ x, (∃ j, j < cntN (fun j => nzJ (σ.2.1 (kk j)) (σ.2.2 (kk j))) n ∧ κ j = x) ↔ ∃ j, j < n ∧ kk j = x ∧ nzJ (σ.2.1 x) (σ.2.2 x) = true := hm
          rw [hc2] at hr hm
          refine ⟨σ, rfl, Or.inl ⟨?_, rfl, hf, κ, hr, hm⟩⟩
          unfold rOK
          rw [ha, decide_eq_true h150, decide_eq_true h60]
          rfl
      · refine am_run hX 3 _ _ _ _ ?_
        conv => whnf
        refine ⟨fun _ => ?_, fun z => absurd (nI_lt (a := 60) (b := σ.1) (by omega) (by omega)) z⟩
        refine am_run hX 3 _ _ _ _ ?_
        conv => whnf
        refine ⟨trivial, σ, rfl, Or.inr ⟨?_, rfl, rfl⟩⟩
        unfold rOK
        rw [decide_eq_false h60, Bool.false_and, Bool.and_false]
    · refine am_run hX 3 _ _ _ _ ?_
      conv => whnf
      refine ⟨fun _ => ?_, fun z => absurd (nI_lt (a := 150) (b := c) (by omega) (by omega)) z⟩
      refine am_run hX 3 _ _ _ _ ?_
      conv => whnf
      refine ⟨trivial, σ, rfl, Or.inr ⟨?_, rfl, rfl⟩⟩
      unfold rOK
      rw [decide_eq_false h150, Bool.false_and]
  refine am_run hX 4 _ _ _ _ ?_
  conv => whnf
  refine ss_1 (d := d + 2) (M := M) (t := t) (f := f) (g := g) hX hn hq ?_ n 0 (by omega)
  rw [← hc]
  refine am_run hX 2 _ _ _ _ ?_
  conv => whnf
  by_cases hz : c = 0
  · have f0 := fin 0 (by rw [if_pos hz])
    rw [hz] at f0 ⊢
    refine ⟨fun z => absurd rfl z, fun _ => ?_⟩
    refine am_run hX 3 _ _ _ _ ?_
    conv => whnf
    exact f0
  · have f0 := fin over (by rw [if_neg hz])
    refine ⟨fun _ => ?_, fun z => absurd (nI_ne0 (by omega) (by omega)) z⟩
    refine am_run hX 2 _ _ _ _ ?_
    conv => whnf
    exact f0
end SS4
