/-! group: rows of a space in one form alone -/
theorem rdP_u {r p : Nat} (hr : r < 65536) (hp : r.testBit p = true) (hl : ∀ i, i < p → r.testBit i = false) : rdP r = p := by
  have h0 : r ≠ 0 := fun e => by
    rw [e, Nat.zero_testBit] at hp
    cases hp
  obtain ⟨a, b, c⟩ := rdP_t hr h0
  rcases Nat.lt_trichotomy (rdP r) p with q | q | q
  · rw [hl _ q] at a
    cases a
  · exact q
  · rw [c _ q] at hp
    cases hp
theorem Spn_m {V : Nat → Nat} {i : Nat} : ∀ {r : Nat}, i < r → Spn V r (V i)
  | 0, h => absurd h (Nat.not_lt_zero _)
  | r + 1, h => by
    by_cases e : i = r
    · subst e
      exact Spn_v V i
    · exact Spn_s (Spn_m (by omega))
theorem sp_sub {A B : Nat → Nat} {r r' v : Nat} (h : ∀ i, i < r → Spn B r' (A i)) (hv : Spn A r v) : Spn B r' v := by
  obtain ⟨e, -, rfl⟩ := hv
  have : ∀ k, k ≤ r → Spn B r' (pxr A e k) := by
    intro k
    induction k with
    | zero => intro _; exact Spn_0 B r'
    | succ k ih =>
      intro hk
      show Spn B r' (pxr A e k ^^^ (if e / 2 ^ k % 2 = 1 then A k else 0))
      split
      · exact Spn_x (ih (by omega)) (h k (by omega))
      · rw [Nat.xor_zero]
        exact ih (by omega)
  exact this r (Nat.le_refl _)
/-- a closed set has all products -/
theorem sp_cl {G : Nat → Prop} {A : Nat → Nat} {r v : Nat} (h0 : G 0) (hx : ∀ a b, G a → G b → G (a ^^^ b)) (h : ∀ i, i < r → G (A i)) (hv : Spn A r v) : G v := by
  obtain ⟨e, -, rfl⟩ := hv
  have : ∀ k, k ≤ r → G (pxr A e k) := by
    intro k
    induction k with
    | zero => intro _; exact h0
    | succ k ih =>
      intro hk
      show G (pxr A e k ^^^ (if e / 2 ^ k % 2 = 1 then A k else 0))
      split
      · exact hx _ _ (ih (by omega)) (h k (by omega))
      · rw [Nat.xor_zero]
        exact ih (by omega)
  exact this r (Nat.le_refl _)
/-- a later row has 0 at an earlier one's first 1 -/
def tri (R : Nat → Nat) (r : Nat) : Prop := (∀ i, i < r → R i < 65536 ∧ R i ≠ 0) ∧ ∀ i j, j < i → i < r → (R i).testBit (rdP (R j)) = false
/-- reduced rows -/
def rrf (R : Nat → Nat) (r : Nat) : Prop := (∀ i, i < r → R i < 65536 ∧ R i ≠ 0) ∧ (∀ i j, i < j → j < r → rdP (R i) < rdP (R j)) ∧ ∀ i j, i < r → j < r → i ≠ j → (R i).testBit (rdP (R j)) = false
theorem rrf_tri {R : Nat → Nat} {r : Nat} (h : rrf R r) : tri R r := ⟨h.1, fun i j hj hi => h.2.2 i j hi (by omega) (by omega)⟩
theorem tr_c {R : Nat → Nat} {r : Nat} (h : tri R r) : ∀ i, i ≤ r → ∀ v, v < 65536 → ∀ j, j < i → (rdV R v i).testBit (rdP (R j)) = false := by
  intro i
  induction i with
  | zero => intro _ v _ j hj; exact absurd hj (Nat.not_lt_zero _)
  | succ i ih =>
    intro hi v hv j hj
    show (rdV R v i ^^^ (if (rdV R v i).testBit (rdP (R i)) = true then R i else 0)).testBit (rdP (R j)) = false
    by_cases e : j = i
    · subst e
      have hp := (rdP_t (h.1 j (by omega)).1 (h.1 j (by omega)).2).1
      by_cases c : (rdV R v j).testBit (rdP (R j)) = true
      · rw [if_pos c, Nat.testBit_xor, c, hp]
        rfl
      · rw [if_neg c, Nat.xor_zero]
        exact Bool.eq_false_iff.mpr c
    · have h1 := ih (by omega) v hv j (by omega)
      have h2 := h.2 i j (by omega) (by omega)
      split
      · rw [Nat.testBit_xor, h1, h2]
        rfl
      · rw [Nat.xor_zero]
        exact h1
theorem rd_sp (R : Nat → Nat) (v : Nat) : ∀ i, Spn R i (v ^^^ rdV R v i)
  | 0 => by
    show Spn R 0 (v ^^^ v)
    rw [Nat.xor_self]
    exact Spn_0 R 0
  | i + 1 => by
    have ih := rd_sp R v i
    show Spn R (i + 1) (v ^^^ (rdV R v i ^^^ (if (rdV R v i).testBit (rdP (R i)) = true then R i else 0)))
    split
    · rw [← Nat.xor_assoc]
      exact Spn_x (Spn_s ih) (Spn_v R i)
    · rw [Nat.xor_zero]
      exact Spn_s ih
/-- what a product of such rows has at the first 1 of its first row -/
theorem tr_b {R : Nat → Nat} {r e : Nat} (h : tri R r) (h0 : 0 < e) (he : e < 2 ^ r) : ∃ l, l < r ∧ e / 2 ^ l % 2 = 1 ∧ (∀ j, j < l → ¬ e / 2 ^ j % 2 = 1) ∧ (pxr R e r).testBit (rdP (R l)) = true := by
  obtain ⟨l, l1, l2, l3⟩ := sml_b r (some_b h0 he)
  refine ⟨l, l1, l2, l3, ?_⟩
  refine ad_1 (V := R) (tb_ad (rdP (R l))) l2 (rdP_t (h.1 l l1).1 (h.1 l l1).2).1 l1 (fun j hj hne hb => ?_)
  have : l < j := by
    rcases Nat.lt_trichotomy j l with q | q | q
    · exact absurd hb (l3 j q)
    · exact absurd q hne
    · exact q
  exact h.2 j l this hj
theorem tr_e {R : Nat → Nat} {r e : Nat} (h : tri R r) (he : e < 2 ^ r) (hp : pxr R e r = 0) : e = 0 := by
  rcases Nat.eq_zero_or_pos e with q | q
  · exact q
  · obtain ⟨l, _, _, _, hb⟩ := tr_b h q he
    rw [hp, Nat.zero_testBit] at hb
    cases hb
theorem tr_z {R : Nat → Nat} {r v : Nat} (h : tri R r) (hv : v < 65536) : rdV R v r = 0 ↔ Spn R r v := by
  constructor
  · intro h0
    have := rd_sp R v r
    rw [h0, Nat.xor_zero] at this
    exact this
  · intro hs
    have hw : Spn R r (rdV R v r) := by
      have := Spn_x hs (rd_sp R v r)
      rw [← Nat.xor_assoc, Nat.xor_self, Nat.zero_xor] at this
      exact this
    obtain ⟨e, he, h1⟩ := hw
    rcases Nat.eq_zero_or_pos e with q | q
    · rw [q, pxr_0] at h1
      exact h1
    · obtain ⟨l, l1, _, _, hb⟩ := tr_b h q he
      rw [← h1, tr_c h r (Nat.le_refl _) v hv l l1] at hb
      cases hb
theorem rd_lt {R : Nat → Nat} {r v n : Nat} (hR : ∀ i, i < r → R i < 2 ^ n) (hv : v < 2 ^ n) : ∀ i, i ≤ r → rdV R v i < 2 ^ n
  | 0, _ => hv
  | i + 1, hi => by
    have ih := rd_lt hR hv i (by omega)
    unfold rdV
    split
    · exact Nat.xor_lt_two_pow ih (hR i (by omega))
    · exact Nat.xor_lt_two_pow ih (Nat.two_pow_pos n)
/-- one row more -/
theorem tr_add {R : Nat → Nat} {r v : Nat} (h : tri R r) (hv : v < 65536) (h0 : rdV R v r ≠ 0) : tri (cpU R r (rdV R v r)) (r + 1) := by
  have e1 : ∀ i, i < r → cpU R r (rdV R v r) i = R i := fun i hi => if_neg (by omega)
  have e2 : cpU R r (rdV R v r) r = rdV R v r := if_pos rfl
  refine ⟨fun i hi => ?_, fun i j hj hi => ?_⟩
  · by_cases c : i = r
    · subst c
      rw [e2]
      exact ⟨rd_lt (n := 16) (fun i hi => (h.1 i hi).1) hv i (Nat.le_refl _), h0⟩
    · rw [e1 i (by omega)]
      exact h.1 i (by omega)
  · by_cases c : i = r
    · subst c
      rw [e2, e1 j hj]
      exact tr_c h i (Nat.le_refl _) v hv j hj
    · rw [e1 i (by omega), e1 j (by omega)]
      exact h.2 i j hj (by omega)
theorem sp_add {R : Nat → Nat} {r u v : Nat} (h : Spn R r v) : Spn (cpU R r u) (r + 1) v := by
  refine sp_sub (fun i hi => ?_) h
  have : cpU R r u i = R i := if_neg (by omega)
  rw [← this]
  exact Spn_m (by omega)
theorem sp_new {R : Nat → Nat} {r v : Nat} : Spn (cpU R r (rdV R v r)) (r + 1) v := by
  have h1 := sp_add (u := rdV R v r) (rd_sp R v r)
  have h2 : Spn (cpU R r (rdV R v r)) (r + 1) (rdV R v r) := by
    have := Spn_m (V := cpU R r (rdV R v r)) (i := r) (r := r + 1) (by omega)
    rw [show cpU R r (rdV R v r) r = rdV R v r from if_pos rfl] at this
    exact this
  have := Spn_x h1 h2
  rw [Nat.xor_assoc, Nat.xor_self, Nat.xor_zero] at this
  exact this
theorem tr_16 {R : Nat → Nat} {r : Nat} (h : tri R r) : r ≤ 16 := by
  apply Classical.byContradiction
  intro c
  obtain ⟨i, j, hij, hj, e⟩ := phb 16 (fun i => rdP (R i)) (fun i hi => (rdP_t (h.1 i (by omega)).1 (h.1 i (by omega)).2).2.1)
  have e : rdP (R i) = rdP (R j) := e
  have h1 := h.2 j i hij (by omega)
  rw [e, (rdP_t (h.1 j (by omega)).1 (h.1 j (by omega)).2).1] at h1
  cases h1
/-- the first 1 of a product of reduced rows is a row's -/
theorem rrl_l {R : Nat → Nat} {r v : Nat} (h : rrf R r) (hs : Spn R r v) (h0 : v ≠ 0) : ∃ l, l < r ∧ rdP v = rdP (R l) := by
  obtain ⟨e, he, rfl⟩ := hs
  have e0 : 0 < e := by
    rcases Nat.eq_zero_or_pos e with q | q
    · rw [q, pxr_0] at h0
      exact absurd rfl h0
    · exact q
  obtain ⟨l, l1, l2, l3, hb⟩ := tr_b (rrf_tri h) e0 he
  refine ⟨l, l1, rdP_u ?_ hb (fun i hi => ?_)⟩
  · exact pxr_p (n := 16) (fun j hj => (h.1 j hj).1)
  · refine adf_0 (V := R) (tb_ad i) (fun j hj hb => ?_)
    show (R j).testBit i = false
    have hjl : l ≤ j := by
      apply Classical.byContradiction
      intro c
      exact l3 j (by omega) hb
    have hp : rdP (R l) ≤ rdP (R j) := by
      rcases Nat.lt_or_ge l j with q | q
      · exact Nat.le_of_lt (h.2.1 l j q hj)
      · obtain rfl : j = l := by omega
        exact Nat.le_refl _
    exact (rdP_t (h.1 j hj).1 (h.1 j hj).2).2.2 i (by omega)
/-- two rows of numbers that rise and have the same numbers -/
theorem inc_u {f g : Nat → Nat} {r r' : Nat} (hf : ∀ i j, i < j → j < r → f i < f j) (hg : ∀ i j, i < j → j < r' → g i < g j) (h1 : ∀ i, i < r → ∃ j, j < r' ∧ f i = g j) (h2 : ∀ i, i < r' → ∃ j, j < r ∧ g i = f j) : ∀ i, i < r → i < r' ∧ f i = g i := by
  intro i
  induction i using Nat.strongRecOn with
  | _ i ih =>
    intro hi
    obtain ⟨j, j1, j2⟩ := h1 i hi
    have hj : i ≤ j := by
      apply Classical.byContradiction
      intro c
      have := (ih j (by omega) (by omega)).2
      have := hf j i (by omega) hi
      omega
    have hi' : i < r' := by omega
    refine ⟨hi', ?_⟩
    obtain ⟨l, l1, l2⟩ := h2 i hi'
    have hl : i ≤ l := by
      apply Classical.byContradiction
      intro c
      have := (ih l (by omega) (by omega)).2
      have := hg l i (by omega) hi'
      omega
    have a1 : f i ≤ f l := by
      rcases Nat.lt_or_ge i l with q | q
      · exact Nat.le_of_lt (hf i l q l1)
      · obtain rfl : l = i := by omega
        exact Nat.le_refl _
    have a2 : g i ≤ g j := by
      rcases Nat.lt_or_ge i j with q | q
      · exact Nat.le_of_lt (hg i j q j1)
      · obtain rfl : j = i := by omega
        exact Nat.le_refl _
    omega
/-- reduced rows of one space are the same -/
theorem rr_u {A B : Nat → Nat} {r r' : Nat} (hA : rrf A r) (hB : rrf B r') (h : ∀ v, Spn A r v ↔ Spn B r' v) : r = r' ∧ ∀ i, i < r → A i = B i := by
  have p1 : ∀ i, i < r → ∃ j, j < r' ∧ rdP (A i) = rdP (B j) := fun i hi => rrl_l hB ((h _).mp (Spn_m hi)) (hA.1 i hi).2
  have p2 : ∀ i, i < r' → ∃ j, j < r ∧ rdP (B i) = rdP (A j) := fun i hi => rrl_l hA ((h _).mpr (Spn_m hi)) (hB.1 i hi).2
  have q1 := inc_u (f := fun i => rdP (A i)) (g := fun i => rdP (B i)) hA.2.1 hB.2.1 p1 p2
  have q2 := inc_u (f := fun i => rdP (B i)) (g := fun i => rdP (A i)) hB.2.1 hA.2.1 p2 p1
  have hr : r = r' := by
    rcases Nat.lt_trichotomy r r' with q | q | q
    · have := (q2 r q).1
      omega
    · exact q
    · have := (q1 r' q).1
      omega
  refine ⟨hr, fun i hi => ?_⟩
  apply Classical.byContradiction
  intro hne
  have hd : A i ^^^ B i ≠ 0 := fun e => hne (xor_0.mp e).symm
  have hs : Spn A r (A i ^^^ B i) := Spn_x (Spn_m hi) ((h _).mpr (Spn_m (by omega)))
  obtain ⟨l, l1, l2⟩ := rrl_l hA hs hd
  have hl : A i ^^^ B i < 65536 := Nat.xor_lt_two_pow (n := 16) (hA.1 i hi).1 (hB.1 i (by omega)).1
  have ht := (rdP_t hl hd).1
  rw [l2, Nat.testBit_xor] at ht
  have e : rdP (A l) = rdP (B l) := (q1 l l1).2
  by_cases c : i = l
  · subst c
    have b1 := (rdP_t (hA.1 i hi).1 (hA.1 i hi).2).1
    have b2 := (rdP_t (hB.1 i (by omega)).1 (hB.1 i (by omega)).2).1
    rw [b1, e, b2] at ht
    cases ht
  · rw [hA.2.2 i l hi l1 c, e, hB.2.2 i l (by omega) (by omega) c] at ht
    cases ht
/-- as many rows of one space, and the first are reduced: all of them are -/
theorem rr_n {A B : Nat → Nat} {r k : Nat} (hA : tri A r) (hk : k ≤ r) (h : ∀ v, Spn A r v → Spn B k v) : k = r := by
  apply Classical.byContradiction
  intro hne
  have hex : ∀ e, ∃ f, e < 2 ^ r → f < 2 ^ k ∧ pxr A e r = pxr B f k := by
    intro e
    by_cases c : e < 2 ^ r
    · obtain ⟨f, f1, f2⟩ := h (pxr A e r) ⟨e, c, rfl⟩
      exact ⟨f, fun _ => ⟨f1, f2⟩⟩
    · exact ⟨0, fun q => absurd q c⟩
  have hp : 2 ^ k < 2 ^ r := Nat.pow_lt_pow_right (by decide) (by omega)
  obtain ⟨i, j, hij, hj, e⟩ := phb (2 ^ k) (fun e => Classical.choose (hex e)) (fun i hi => (Classical.choose_spec (hex i) (by omega)).1)
  have e : Classical.choose (hex i) = Classical.choose (hex j) := e
  have a := (Classical.choose_spec (hex i) (by omega)).2
  have b := (Classical.choose_spec (hex j) (by omega)).2
  rw [e, ← b] at a
  have h0 := tr_e hA (e := i ^^^ j) (Nat.xor_lt_two_pow (by omega) (by omega)) (by rw [pxr_x, a, Nat.xor_self])
  exact absurd (xor_0.mp h0) (by omega)
