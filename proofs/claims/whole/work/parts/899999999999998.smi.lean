/-! SUMS: what is kept from call to call; a SUM that stays -/
def smI (M : mm_M) : Prop := ∃ a b A B, sm_r M a b ∧ csS M a 0 A ∧ csS M b 1 B ∧ rsS M 0 A ∧ rsS M 1 B ∧ okS A ∧ okS B ∧ wkM M ∧ ∀ z, z < 256 → M.2 101 z = 0 ∧ M.2 102 z = 0
section SMI
variable {M N M' : mm_M} {a b x c m : Nat} {A B S : SU} {P Q : Nat → Int64} {κ : Nat → Nat}
theorem rsS_cs (h : csF M N) (hS : rsS M x S) : rsS N x S := by
  unfold rsS at *
  rw [h.1 141 (by decide), h.1 142 (by decide), h.1 143 (by decide), h.1 144 (by decide), h.1 145 (by decide)]
  exact hS
theorem wkM_cs (h : csF M N) (hw : wkM M) : wkM N := by
  unfold wkM at *
  rw [h.1 108 (by decide), h.1 149 (by decide), h.1 148 (by decide), h.2.1 146 (by decide), h.2.1 147 (by decide)]
  exact hw
theorem csS_rs (h : rsF N M') (ha : a ≤ 2) (hS : csS N a x S) : csS M' a x S := by
  unfold csS at *
  rw [h.1 96 (by decide) (by decide), h.1 97 (by decide) (by decide), h.1 (85 + a) (by omega) (by omega), h.1 (89 + a) (by omega) (by omega), h.1 (93 + a) (by omega) (by omega)]
  exact hS
theorem sm_mk (hr : sm_r M a b) (hG : csG M N) (hz : ∀ z, z < 256 → M.2 101 z = 0 ∧ M.2 102 z = 0) (c1 : csS N a 0 A) (c2 : csS N b 1 B) (hR : rsF N M') (r1 : rsS M' 0 A) (r2 : rsS M' 1 B) (o1 : okS A) (o2 : okS B) (hw : wkM M') : smI M' := by
  have hab : a ≤ 2 ∧ b ≤ 2 := by
    have := hr.1
    omega
  obtain ⟨g1, g2, g3, g4, g5⟩ := hG
  refine ⟨a, b, A, B, ⟨hr.1, ?_, ?_, ?_⟩, csS_rs hR hab.1 c1, csS_rs hR hab.2 c2, r1, r2, o1, o2, hw, fun z h => ?_⟩
  · rw [hR.1 84 (by decide) (by decide), g1]
    exact hr.2.1
  · rw [hR.1 88 (by decide) (by decide), g2]
    exact hr.2.2.1
  · rw [hR.1 92 (by decide) (by decide), g3]
    exact hr.2.2.2
  · rw [hR.2.1 101 (by decide) (by decide), hR.2.1 102 (by decide) (by decide), g4, g5]
    exact hz z h
theorem csG_r (M : mm_M) : csG M M := ⟨rfl, rfl, rfl, rfl, rfl⟩
theorem rsS_th (h : rsS M x S) : rsS (th0 M) x S := h
theorem wkM_th (h : wkM M) : wkM (th0 M) := h
theorem smI_th (h : smI M) : smI (th0 M) := by
  obtain ⟨a, b, A, B, hr, c1, c2, r1, r2, o1, o2, hw, hz⟩ := h
  exact sm_mk hr (csG_r M) hz c1 c2 rsF_th (rsS_th r1) (rsS_th r2) o1 o2 (wkM_th hw)
theorem enX_u (he : enX P Q c κ) (hk : okN P Q m c κ = true) : enu P Q c κ := by
  rcases he with he | he
  · exact he
  · unfold okN at hk
    rw [decide_eq_false (by omega), Bool.false_and] at hk
    exact absurd hk (by decide)
/-- two SUMS are one -/
def sameS (S T : SU) : Prop := S.1 = T.1 ∧ S.2.1 = T.2.1 ∧ ∀ i, i < S.1 → S.2.2.1 i = T.2.2.1 i ∧ S.2.2.2.1 i = T.2.2.2.1 i ∧ S.2.2.2.2 i = T.2.2.2.2 i
theorem csS_same {T : SU} (e : sameS S T) (h : csS M a x S) : csS M a x T := by
  obtain ⟨e1, e2, e3⟩ := e
  refine ⟨by rw [← e1]; exact h.1, by rw [← e2]; exact h.2.1, fun i hi => ?_⟩
  rw [← e1] at hi
  rw [← (e3 i hi).1, ← (e3 i hi).2.1, ← (e3 i hi).2.2]
  exact h.2.2 i hi
theorem sh_0 : shA 0 = 1 := by decide
theorem self_k {X : SU} {sg : Int32} (hA : okS A) (hX : X.1 = 0) (he : enX (suP A.2.1 sg A X) (suQ A.2.1 sg A X) c κ) : okN (suP A.2.1 sg A X) (suQ A.2.1 sg A X) A.2.1 c κ = true ∧ sameS (newS (suP A.2.1 sg A X) (suQ A.2.1 sg A X) A.2.1 c κ) A := by
  obtain ⟨a1, a2, a3, a4, a5, a6⟩ := hA
  have vP : ∀ x, suP A.2.1 sg A X x = lkp A.2.2.1 A.2.2.2.1 A.1 x := fun x => by
    show shA (A.2.1 - A.2.1) * lkp A.2.2.1 A.2.2.2.1 A.1 x + _ * lkp X.2.2.1 X.2.2.2.1 X.1 x = _
    rw [hX, Nat.sub_self, sh_0, Int64.one_mul]
    show lkp A.2.2.1 A.2.2.2.1 A.1 x + _ * 0 = _
    rw [Int64.mul_zero, Int64.add_zero]
  have vQ : ∀ x, suQ A.2.1 sg A X x = lkp A.2.2.1 A.2.2.2.2 A.1 x := fun x => by
    show shA (A.2.1 - A.2.1) * lkp A.2.2.1 A.2.2.2.2 A.1 x + _ * lkp X.2.2.1 X.2.2.2.2 X.1 x = _
    rw [hX, Nat.sub_self, sh_0, Int64.one_mul]
    show lkp A.2.2.1 A.2.2.2.2 A.1 x + _ * 0 = _
    rw [Int64.mul_zero, Int64.add_zero]
  have wP : ∀ i, i < A.1 → suP A.2.1 sg A X (A.2.2.1 i) = (A.2.2.2.1 i).toInt64 ∧ suQ A.2.1 sg A X (A.2.2.1 i) = (A.2.2.2.2 i).toInt64 := fun i hi => ⟨by rw [vP, lkp_in A.1 (ris_i a3) hi], by rw [vQ, lkp_in A.1 (ris_i a3) hi]⟩
  have inA : ∀ x, nzJ (suP A.2.1 sg A X x) (suQ A.2.1 sg A X x) = true → ∃ j, j < A.1 ∧ A.2.2.1 j = x := fun x hz => by
    rcases mem_dec A.2.2.1 x A.1 with h | h
    · exact h
    · rw [vP, vQ, lkp_no A.1 h, lkp_no A.1 h] at hz
      exact absurd hz (by decide)
  have en : enu (suP A.2.1 sg A X) (suQ A.2.1 sg A X) A.1 A.2.2.1 := ⟨a3, fun x => ⟨fun ⟨l, hl, e⟩ => by
    rw [← e, (wP l hl).1, (wP l hl).2]
    exact ⟨(a4 l hl).1, (a4 l hl).2.2.2⟩, fun h => inA x h.2⟩⟩
  generalize hP : suP A.2.1 sg A X = P at *
  generalize hQ : suQ A.2.1 sg A X = Q at *
  have he : enu P Q c κ := by
    rcases he with he | ⟨h1, h2, h3⟩
    · exact he
    · have := cnn_ge (kk := A.2.2.1) (p := fun _ => true) A.1 c κ (ris_i h2) fun l hl => by
        obtain ⟨j, hj, e⟩ := inA _ (h3 l hl).2
        exact ⟨j, hj, e, rfl⟩
      have := cnt_le (fun _ => true) A.1
      omega
  obtain ⟨ec, eκ⟩ := enu_u he en
  subst ec
  have wF' : ∀ i, i < A.1 → P (κ i) = (A.2.2.2.1 i).toInt64 ∧ Q (κ i) = (A.2.2.2.2 i).toInt64 := fun i hi => by
    rw [eκ i hi]
    exact wP i hi
  have es : stP P Q A.2.1 A.1 κ = (A.2.1, (fun l => P (κ l)), fun l => Q (κ l)) := by
    unfold stP
    by_cases h0 : A.2.1 = 0
    · rw [h0, ite_self]
      rfl
    · have hc : ¬ A.1 = 0 := fun z => h0 (a5 z)
      rw [if_neg hc]
      obtain ⟨i, hi, ho⟩ := a6.resolve_left h0
      obtain ⟨k, ek⟩ : ∃ k, A.2.1 = k + 1 := ⟨A.2.1 - 1, by omega⟩
      rw [ek]
      simp only [stl]
      rw [all_f (p := fun j => e1J (P (κ j)) (Q (κ j))) hi (by
        try dsimp only
        rw [(wF' i hi).1, (wF' i hi).2]
        exact ho), if_neg (by decide)]
  refine ⟨?_, rfl, ?_, fun i hi => ⟨eκ i hi, ?_, ?_⟩⟩
  · unfold okN stOK
    rw [es, decide_eq_true a1]
    show (true && (decide (A.2.1 ≤ 60) && allN (fun l => smJ (P (κ l)) && smJ (Q (κ l))) A.1)) = true
    rw [decide_eq_true a2, (all_iff A.1).mpr fun i hi => ?_]
    · rfl
    · rw [(wF' i hi).1, (wF' i hi).2, (a4 i hi).2.1, (a4 i hi).2.2.1]
      rfl
  · show (stP P Q A.2.1 A.1 κ).1 = A.2.1
    rw [es]
  · show ((stP P Q A.2.1 A.1 κ).2.1 i).toInt32 = _
    rw [es]
    show (P (κ i)).toInt32 = _
    rw [(wF' i hi).1, Int32.toInt32_toInt64]
  · show ((stP P Q A.2.1 A.1 κ).2.2 i).toInt32 = _
    rw [es]
    show (Q (κ i)).toInt32 = _
    rw [(wF' i hi).2, Int32.toInt32_toInt64]
end SMI
