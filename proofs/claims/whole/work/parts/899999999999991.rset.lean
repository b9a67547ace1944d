/-! SUMS as both keep them; the reference's settleSum in the class's words -/
abbrev SU := Nat × Nat × (Nat → Nat) × (Nat → Int32) × (Nat → Int32)
def csS (M : mm_M) (a x : Nat) (S : SU) : Prop := M.1 96 x = nI S.1 ∧ M.1 97 x = nI S.2.1 ∧ ∀ i, i < S.1 → M.1 (85 + a) i = nI (S.2.2.1 i) ∧ M.1 (89 + a) i = S.2.2.2.1 i ∧ M.1 (93 + a) i = S.2.2.2.2 i
def rsS (M : mm_M) (x : Nat) (S : SU) : Prop := M.1 141 x = nI S.1 ∧ M.1 142 x = nI S.2.1 ∧ ∀ i, i < S.1 → M.1 143 (150 * x + i) = nI (S.2.2.1 i) ∧ M.1 144 (150 * x + i) = S.2.2.2.1 i ∧ M.1 145 (150 * x + i) = S.2.2.2.2 i
def okS (S : SU) : Prop := S.1 ≤ 150 ∧ S.2.1 ≤ 60 ∧ (∀ i j, i < j → j < S.1 → S.2.2.1 i < S.2.2.1 j) ∧ (∀ i, i < S.1 → S.2.2.1 i < 65536 ∧ smJ (S.2.2.2.1 i).toInt64 = true ∧ smJ (S.2.2.2.2 i).toInt64 = true ∧ nzJ (S.2.2.2.1 i).toInt64 (S.2.2.2.2 i).toInt64 = true) ∧ (S.1 = 0 → S.2.1 = 0) ∧ (S.2.1 = 0 ∨ ∃ i, i < S.1 ∧ e1J (S.2.2.2.1 i).toInt64 (S.2.2.2.2 i).toInt64 = false)
def newS (P Q : Nat → Int64) (over c : Nat) (κ : Nat → Nat) : SU := (c, (stP P Q over c κ).1, κ, fun j => ((stP P Q over c κ).2.1 j).toInt32, fun j => ((stP P Q over c κ).2.2 j).toInt32)
theorem t32 {v : Int64} (h : smJ v = true) : v.toInt32.toInt64 = v := by
  have h : ¬ v < -1000000 ∧ ¬ 1000000 < v := of_decide_eq_true h
  have e1 : -1000000 ≤ v.toInt := by
    have := Int64.not_lt.mp h.1
    rw [Int64.le_iff_toInt_le] at this
    exact this
  have e2 : v.toInt ≤ 1000000 := by
    have := Int64.not_lt.mp h.2
    rw [Int64.le_iff_toInt_le] at this
    exact this
  refine Int64.toInt_inj.mp ?_
  rw [Int32.toInt_toInt64, Int64.toInt_toInt32, Int.bmod_def]
  omega
section STE
variable {c : Nat}
theorem stl_end : ∀ k F G, (stl c k F G).1 = 0 ∨ allN (fun j => e1J ((stl c k F G).2.1 j) ((stl c k F G).2.2 j)) c = false
  | 0, _, _ => Or.inl rfl
  | k + 1, F, G => by
    simp only [stl]
    cases h : allN (fun j => e1J (F j) (G j)) c with
    | true =>
      rw [if_pos rfl]
      exact stl_end k _ _
    | false =>
      rw [if_neg (by decide)]
      exact Or.inr h
theorem stl_nz : ∀ k F G j, j < c → nzJ ((stl c k F G).2.1 j) ((stl c k F G).2.2 j) = nzJ (F j) (G j)
  | 0, _, _, _, _ => rfl
  | k + 1, F, G, j, hj => by
    simp only [stl]
    cases h : allN (fun j => e1J (F j) (G j)) c with
    | true =>
      rw [if_pos rfl, stl_nz k _ _ j hj, hqf_i hj, hqf_i hj]
      have e := (all_iff c).mp h j hj
      rw [← ev_e1, Bool.and_eq_true] at e
      rw [← hv_b e.1, ← hv_b e.2]
      exact nz_h e.1 e.2
    | false =>
      rw [if_neg (by decide)]
theorem all_x {p : Nat → Bool} : ∀ n, allN p n = false → ∃ i, i < n ∧ p i = false := fun n h => Decidable.byContradiction fun z => by
  have : allN p n = true := (all_iff n).mpr fun i hi => by
    cases hp : p i with
    | true => rfl
    | false => exact absurd ⟨i, hi, hp⟩ z
  rw [h] at this
  exact absurd this (by decide)
end STE
theorem okS_new {P Q : Nat → Int64} {over c : Nat} {κ : Nat → Nat} (he : enu P Q c κ) (hk : okN P Q over c κ = true) : okS (newS P Q over c κ) := by
  have lt := enu_l he
  have nz := stl_nz (c := c) (if c = 0 then 0 else over) (fun l => P (κ l)) (fun l => Q (κ l))
  have en := stl_end (c := c) (if c = 0 then 0 else over) (fun l => P (κ l)) (fun l => Q (κ l))
  have le := stl_le c (if c = 0 then 0 else over) (fun l => P (κ l)) (fun l => Q (κ l))
  unfold okN stP at hk
  show okS (c, (stl c (if c = 0 then 0 else over) (fun l => P (κ l)) (fun l => Q (κ l))).1, κ, fun j => ((stl c (if c = 0 then 0 else over) (fun l => P (κ l)) (fun l => Q (κ l))).2.1 j).toInt32, fun j => ((stl c (if c = 0 then 0 else over) (fun l => P (κ l)) (fun l => Q (κ l))).2.2 j).toInt32)
  generalize stl c (if c = 0 then 0 else over) (fun l => P (κ l)) (fun l => Q (κ l)) = σ at *
  rw [Bool.and_eq_true] at hk
  have k1 : c ≤ 150 := of_decide_eq_true hk.1
  have k2 := hk.2
  unfold stOK at k2
  rw [Bool.and_eq_true] at k2
  have k3 : σ.1 ≤ 60 := of_decide_eq_true k2.1
  have k4 : ∀ i, i < c → smJ (σ.2.1 i) = true ∧ smJ (σ.2.2 i) = true := fun i hi => by
    have := (all_iff c).mp k2.2 i hi
    rw [Bool.and_eq_true] at this
    exact this
  refine ⟨k1, k3, he.1, fun i hi => ?_, fun h0 => ?_, ?_⟩
  · refine ⟨(lt i hi).1, ?_, ?_, ?_⟩
    · show smJ (σ.2.1 i).toInt32.toInt64 = true
      rw [t32 (k4 i hi).1]
      exact (k4 i hi).1
    · show smJ (σ.2.2 i).toInt32.toInt64 = true
      rw [t32 (k4 i hi).2]
      exact (k4 i hi).2
    · show nzJ (σ.2.1 i).toInt32.toInt64 (σ.2.2 i).toInt32.toInt64 = true
      rw [t32 (k4 i hi).1, t32 (k4 i hi).2, nz i hi]
      exact (lt i hi).2
  · have h0 : c = 0 := h0
    rw [if_pos h0] at le
    show σ.1 = 0
    omega
  · rcases en with e | e
    · exact Or.inl e
    · obtain ⟨i, hi, hz⟩ := all_x c e
      refine Or.inr ⟨i, hi, ?_⟩
      show e1J (σ.2.1 i).toInt32.toInt64 (σ.2.2 i).toInt32.toInt64 = false
      rw [t32 (k4 i hi).1, t32 (k4 i hi).2]
      exact hz
/-- what a step of the reference's SUMS may change -/
def rsF (M M' : mm_M) : Prop := (∀ k, k ≠ 108 → ¬ (141 ≤ k ∧ k ≤ 149) → M'.1 k = M.1 k) ∧ (∀ k, k ≠ 146 → k ≠ 147 → M'.2 k = M.2 k) ∧ ∀ j, j ≠ 64 → j ≠ 0 → M'.1 108 j = M.1 108 j
theorem rsF_r (M : mm_M) : rsF M M := ⟨fun _ _ _ => rfl, fun _ _ _ => rfl, fun _ _ _ => rfl⟩
theorem rsF_t {M N K : mm_M} (h : rsF M N) (h' : rsF N K) : rsF M K := ⟨fun k a b => (h'.1 k a b).trans (h.1 k a b), fun k a b => (h'.2.1 k a b).trans (h.2.1 k a b), fun j a b => (h'.2.2 j a b).trans (h.2.2 j a b)⟩
section RSF
variable {M M' : mm_M} {n : Nat} {q t : Nat → Int32} {f g : Nat → Int64}
theorem rsF_w : rsF M (wF M n q t f g) := by
  refine ⟨fun k a b => ?_, fun k a b => ?_, fun j a b => ?_⟩
  · have h1 : ¬ k = 148 := by omega
    have h2 : ¬ k = 149 := by omega
    simp [wF, mm_i, mm_l, h1, h2, a]
  · simp [wF, mm_i, mm_l, a, b]
  · show upd (M.1 108) 64 (nI n) j = M.1 108 j
    unfold upd
    rw [if_neg a]
theorem rsF_th : rsF M (th0 M) := by
  refine ⟨fun k a b => ?_, fun k a b => rfl, fun j a b => ?_⟩
  · simp [th0, mm_i, a]
  · show upd (M.1 108) 0 0 j = M.1 108 j
    unfold upd
    rw [if_neg b]
theorem rsF_f (h : frm M M') : rsF M M' := by
  obtain ⟨h1, h2, h3, h4⟩ := h
  exact ⟨fun k a b => h1 k (by omega) (by omega) (by omega) (by omega), fun k _ _ => by rw [h2], fun j _ _ => by rw [h1 108 (by decide) (by decide) (by decide) (by decide)]⟩
theorem rsF_sB {σ : Nat × (Nat → Int64) × (Nat → Int64)} : rsF M (sB M n q t σ) := by
  refine rsF_t (rsF_w (n := n) (q := q) (t := t) (f := σ.2.1) (g := σ.2.2)) ⟨fun k a b => ?_, fun _ _ _ => rfl, fun _ _ _ => rfl⟩
  have h1 : ¬ k = 141 := by omega
  have h2 : ¬ k = 142 := by omega
  unfold sB
  simp [mm_i, h1, h2]
/-- a sound work row -/
def wkM (M : mm_M) : Prop := ∃ n kk, M.1 108 64 = nI n ∧ wkO n (M.1 149) (M.1 148) (M.2 146) (M.2 147) kk
theorem wF_self (h : M.1 108 64 = nI n) : wF M n (M.1 149) (M.1 148) (M.2 146) (M.2 147) = M := by
  refine Prod.ext (funext fun k => ?_) (funext fun k => ?_)
  · by_cases h1 : k = 108
    · subst h1
      show upd (M.1 108) 64 (nI n) = M.1 108
      funext j
      unfold upd
      by_cases e : j = 64
      · rw [if_pos e, e, h]
      · rw [if_neg e]
    · by_cases h2 : k = 148
      · subst h2; rfl
      · by_cases h3 : k = 149
        · subst h3; rfl
        · simp [wF, mm_i, mm_l, h1, h2, h3]
  · by_cases h1 : k = 146
    · subst h1; rfl
    · by_cases h2 : k = 147
      · subst h2; rfl
      · simp [wF, mm_i, mm_l, h1, h2]
theorem wkM_w {kk : Nat → Nat} (h : wkO n q t f g kk) : wkM (wF M n q t f g) := ⟨n, kk, rfl, h⟩
theorem rsS_w {x : Nat} {S : SU} (h : rsS M x S) : rsS (wF M n q t f g) x S := h
end RSF
/-- all the keys that have a number, or more than can be kept -/
def enX (P Q : Nat → Int64) (c : Nat) (κ : Nat → Nat) : Prop := enu P Q c κ ∨ (150 < c ∧ (∀ i j, i < j → j < c → κ i < κ j) ∧ ∀ l, l < c → κ l < 65536 ∧ nzJ (P (κ l)) (Q (κ l)) = true)
section SSR
variable {d n c : Nat} {M : mm_M} {q t : Nat → Int32} {f g P Q : Nat → Int64} {kk κ : Nat → Nat}
theorem wkO_r (hw : wkO n q t f g kk) (k : Nat) : wkO n q t (rtl kk n k f g).2.1 (rtl kk n k f g).2.2 kk := by
  obtain ⟨h1, h2, h3, h4, h5⟩ := hw
  refine ⟨h1, h2, h3, h4, fun x hx hj => ?_⟩
  obtain ⟨e1, e2⟩ := rtl_off hj k f g
  rw [e1, e2]
  exact h5 x hx hj
theorem enX_c (hw : wkO n q t f g kk) (hf : ∀ x, x < 65536 → f x = P x ∧ g x = Q x) (he : enX P Q c κ) : cntN (fun j => nzJ (f (kk j)) (g (kk j))) n = c ∨ 150 < cntN (fun j => nzJ (f (kk j)) (g (kk j))) n ∧ 150 < c := by
  rcases he with he | ⟨h1, h2, h3⟩
  · exact Or.inl (enu_a hw hf he).2
  · refine Or.inr ⟨Nat.lt_of_lt_of_le h1 (cnn_ge (kk := kk) n c κ (ris_i h2) fun l hl => ?_), h1⟩
    rcases mem_dec kk (κ l) n with ⟨j, hj, e⟩ | h
    · refine ⟨j, hj, e, ?_⟩
      try dsimp only
      rw [e, (hf _ (h3 l hl).1).1, (hf _ (h3 l hl).1).2]
      exact (h3 l hl).2
    · obtain ⟨_, e1, e2⟩ := hw.2.2.2.2 _ (h3 l hl).1 h
      have hz := (h3 l hl).2
      rw [← (hf _ (h3 l hl).1).1, ← (hf _ (h3 l hl).1).2, e1, e2] at hz
      exact absurd hz (by decide)
/-- what settleSum leaves -/
def ssE (M : mm_M) (P Q : Nat → Int64) (over c : Nat) (κ : Nat → Nat) : am_Q := fun r M' => rsF M M' ∧ wkM M' ∧ (∀ B, rsS M 1 B → rsS M' 1 B) ∧ ((okN P Q over c κ = true ∧ r = .inl (some (aI (nI c))) ∧ rsS M' 0 (newS P Q over c κ)) ∨ (okN P Q over c κ = false ∧ r = .inl (some (aI (-1))) ∧ ∀ A, rsS M 0 A → rsS M' 0 A))
theorem ct_ssumR {over : Nat} (hw : wkO n q t f g kk) (ho : over < 2 ^ 30) (hf : ∀ x, x < 65536 → f x = P x ∧ g x = Q x) (he : enX P Q c κ) : am_M (d + 3) false nm_X12_settleSum [aR 108, aI (nI over)] (wF M n q t f g) (ssE M P Q over c κ) := by
  refine am_wk (ct_ssum (d := d) (M := M) (t := t) hw.1 ho hw.2.1 hw.2.2.1 rfl) ?_
  rintro r M' ⟨σ, hσ, h⟩
  have cc := enX_c hw hf he
  have no : rOK kk n (cntN (fun j => nzJ (f (kk j)) (g (kk j))) n) σ = false → M' = wF M n q t σ.2.1 σ.2.2 → rsF M M' ∧ wkM M' ∧ (∀ B, rsS M 1 B → rsS M' 1 B) ∧ ∀ A, rsS M 0 A → rsS M' 0 A := fun _ e => by
    rw [e]
    refine ⟨rsF_w, wkM_w (kk := kk) ?_, fun B h => rsS_w h, fun A h => rsS_w h⟩
    rw [hσ]
    exact wkO_r hw _
  rcases cc with cc | ⟨cc, c150⟩
  · rcases he with he | he
    · obtain ⟨al, _⟩ := enu_a hw hf he
      rw [cc] at h hσ no
      obtain ⟨a1, a2⟩ := alk_st hw.2.2.1 (if c = 0 then 0 else over) f g _ _ al
      have nz := rtl_nz hw.2.2.1 (if c = 0 then 0 else over) f g
      have wk := wkO_r hw (if c = 0 then 0 else over)
      rw [← hσ] at a1 a2 nz wk
      have a1 : σ.1 = (stP P Q over c κ).1 := a1
      have a2 : alkS kk κ n c σ.2.1 σ.2.2 (stP P Q over c κ).2.1 (stP P Q over c κ).2.2 := a2
      have ok : rOK kk n c σ = okN P Q over c κ := by
        unfold rOK okN stOK
        rw [a1, alk_s a2]
      rw [ok] at h no
      rcases h with ⟨k1, k2, k3, κ', k4, k5⟩ | ⟨k1, k2, k3⟩
      · have eκ : ∀ j, j < c → κ' j = κ j := ris_eq c k4.2.2.1 he.1 fun x => by
          rw [k5, he.2]
          constructor
          · rintro ⟨j, hj, e, hz⟩
            rw [← e, nz j hj, (hf _ (hw.2.1 j hj).1).1, (hf _ (hw.2.1 j hj).1).2] at hz
            rw [← e]
            exact ⟨(hw.2.1 j hj).1, hz⟩
          · intro hx
            obtain ⟨l, hl, e⟩ := (he.2 x).mpr hx
            obtain ⟨i, hi, e'⟩ := al.1 l hl
            refine ⟨i, hi, e'.trans e, ?_⟩
            rw [← e, ← e', nz i hi, (hf _ (hw.2.1 i hi).1).1, (hf _ (hw.2.1 i hi).1).2, e', e]
            exact hx.2
        obtain ⟨r1, r2, r3, r4⟩ := k4
        obtain ⟨f1, f2, f3, f4⟩ := k3
        have e142 : M'.1 142 = upd (M.1 142) 0 (nI σ.1) := f1 142 (by decide) (by decide) (by decide) (by decide)
        refine ⟨rsF_t rsF_sB (rsF_f ⟨f1, f2, f3, f4⟩), ⟨n, kk, ?_, ?_⟩, fun B hB => ⟨?_, ?_, fun i hi => ?_⟩, Or.inl ⟨k1, k2, r1, ?_, fun i hi => ?_⟩⟩
        · rw [f1 108 (by decide) (by decide) (by decide) (by decide)]
          rfl
        · rw [f1 149 (by decide) (by decide) (by decide) (by decide), f1 148 (by decide) (by decide) (by decide) (by decide), f2]
          exact wk
        · rw [f3 1 (by decide)]
          exact hB.1
        · rw [e142]
          exact hB.2.1
        · obtain ⟨b1, b2, b3⟩ := f4 (150 * 1 + i) (by omega)
          rw [b1, b2, b3]
          exact hB.2.2 i hi
        · rw [e142]
          show nI σ.1 = nI (stP P Q over c κ).1
          rw [a1]
        · have hi : i < c := hi
          obtain ⟨_, s2, s3, s4⟩ := r4 i hi
          rw [eκ i hi] at s2 s3 s4
          rw [f2] at s3 s4
          obtain ⟨t1, t2⟩ := a2.2.2 i hi
          rw [show 150 * 0 + i = i by omega]
          refine ⟨s2, s3.trans ?_, s4.trans ?_⟩
          · show (σ.2.1 (κ i)).toInt32 = ((stP P Q over c κ).2.1 i).toInt32
            rw [t1]
          · show (σ.2.2 (κ i)).toInt32 = ((stP P Q over c κ).2.2 i).toInt32
            rw [t2]
      · obtain ⟨n1, n2, n3, n4⟩ := no k1 k3
        exact ⟨n1, n2, n3, Or.inr ⟨k1, k2, n4⟩⟩
    · have := he.1
      have okf : okN P Q over c κ = false := by
        unfold okN
        rw [decide_eq_false (by omega)]
        rfl
      have rf : rOK kk n (cntN (fun j => nzJ (f (kk j)) (g (kk j))) n) σ = false := by
        unfold rOK
        rw [decide_eq_false (by omega)]
        rfl
      rcases h with ⟨k1, _⟩ | ⟨k1, k2, k3⟩
      · rw [rf] at k1
        exact absurd k1 (by decide)
      · obtain ⟨n1, n2, n3, n4⟩ := no k1 k3
        exact ⟨n1, n2, n3, Or.inr ⟨okf, k2, n4⟩⟩
  · have okf : okN P Q over c κ = false := by
      unfold okN
      rw [decide_eq_false (by omega)]
      rfl
    have rf : rOK kk n (cntN (fun j => nzJ (f (kk j)) (g (kk j))) n) σ = false := by
      unfold rOK
      rw [decide_eq_false (by omega)]
      rfl
    rcases h with ⟨k1, _⟩ | ⟨k1, k2, k3⟩
    · rw [rf] at k1
      exact absurd k1 (by decide)
    · obtain ⟨n1, n2, n3, n4⟩ := no k1 k3
      exact ⟨n1, n2, n3, Or.inr ⟨okf, k2, n4⟩⟩
end SSR
