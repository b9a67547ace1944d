/-! ROUTE: the class's addLayer -/
theorem mxs_r {m x : Nat} (hm : m ≤ 2000) (hx : x ≤ 2000) : (if nI m + -1 < nI x then nI x else nI m + -1) = nI (max m (x + 1)) + -1 := by
  have e : nI x = nI (x + 1) + -1 := (nI_d1 x).symm
  cases m with
  | zero =>
    rw [if_pos (Int32.lt_of_lt_of_le (show nI 0 + (-1) < nI 0 by decide) (nI_le (Nat.zero_le _) (by omega))), Nat.max_eq_right (Nat.zero_le _)]
    exact e
  | succ m =>
    rw [nI_d1]
    by_cases c : m < x
    · rw [if_pos (nI_lt c (by omega)), Nat.max_eq_right (by omega)]
      exact e
    · rw [if_neg (nI_nlt (by omega) (by omega)), Nat.max_eq_left (by omega), nI_d1]
theorem nI_gm {m x : Nat} (hm : m ≤ 2000) (hx : x ≤ 1073741824) : (nI m + -1 < nI x) ↔ m ≤ x := by
  cases m with
  | zero => exact ⟨fun _ => Nat.zero_le _, fun _ => Int32.lt_of_lt_of_le (show nI 0 + (-1) < nI 0 by decide) (nI_le (Nat.zero_le _) (by omega))⟩
  | succ m =>
    rw [nI_d1]
    exact ⟨fun h => Classical.byContradiction fun q => absurd h (nI_nlt (by omega) (by omega)), fun h => nI_lt (by omega) (by omega)⟩
section RTP
variable {d : Nat} {M : mm_M} {W S : Nat} {Lk : Nat → Nat → Bool} {O : Nat → Option (Nat × Nat)} {i : Nat} {f : Nat → Nat}
/-- can the OP be done there -/
def cbD (Lk : Nat → Nat → Bool) (O : Nat → Option (Nat × Nat)) (W i r : Nat) : Bool := rtQq Lk O (unP W r) i
/-- the row with what can't be done there taken away -/
def f1D (Lk : Nat → Nat → Bool) (O : Nat → Option (Nat × Nat)) (W i : Nat) (f : Nat → Nat) (r : Nat) : Nat := if cbD Lk O W i r = true then f r else NKn
/-- the neighbour that is nearer -/
theorem nr_1 {r n : Nat} (hW : W ≤ 6) (hr : r < cnW W) (hc : cbD Lk O W i r = false) (h : ndP Lk O S i (unP W r) (n + 1)) : ∃ t, t < 15 ∧ nbR W Lk r t < cnW W ∧ nbR W Lk (nbR W Lk r t) t = r ∧ ndP Lk O S i (unP W (nbR W Lk r t)) n := by
  obtain ⟨e, he, hn⟩ := nd_f hc h
  obtain ⟨k1, k2⟩ := eT_s e he.1 he.2.1
  have ha := (unP_a hW hr).1
  have ha' := arr_s he.1 he.2.1 ha
  have hu := rkP_u hW ha'
  have e1 : nbR W Lk r (kkN e) = rkP ((unP W r).map (swx e)) := by
    unfold nbR
    rw [k2, if_pos he.2.2]
  have e2 : nbR W Lk (rkP ((unP W r).map (swx e))) (kkN e) = r := by
    unfold nbR
    rw [k2, if_pos he.2.2, hu.2, map_2 ha he.1 he.2.1]
    exact (unP_a hW hr).2
  refine ⟨kkN e, k1, by rw [e1]; exact hu.1, by rw [e1]; exact e2, ?_⟩
  rw [e1, hu.2]
  exact hn
theorem nb_1n {r t n : Nat} (hW : W ≤ 6) (hi : i ≤ S) (hr : r < cnW W) (ht : t < 15) (h : ndP Lk O S i (unP W r) n) : ∃ b, b ≤ n + 1 ∧ ndP Lk O S i (unP W (nbR W Lk r t)) b := by
  unfold nbR
  by_cases c : Lk (eT t / 6) (eT t % 6) = true
  · obtain ⟨_, _, a, b⟩ := eT_f t ht
    have ha := (unP_a hW hr).1
    rw [if_pos c, (rkP_u hW (arr_s a b ha)).2]
    exact nd_b hi ha ⟨a, b, c⟩ h
  · rw [if_neg c]
    exact ⟨n, by omega, h⟩
/-- the row is right up to q -/
def alR (Lk : Nat → Nat → Bool) (O : Nat → Option (Nat × Nat)) (S W i : Nat) (f g : Nat → Nat) (q mo un : Nat) : Prop := (∀ r, r < cnW W → g r = NKn ∨ (g r ≤ 1000 ∧ ndP Lk O S i (unP W r) (g r))) ∧ (∀ r n, r < cnW W → n ≤ q → n ≤ 1000 → ndP Lk O S i (unP W r) n → g r = n) ∧ (∀ r, r < cnW W → g r ≠ NKn → g r + 1 ≤ mo) ∧ (∀ r, r < cnW W → cbD Lk O W i r = true → g r = f r) ∧ un + ctQ (fun r => isN f r && cbD Lk O W i r) (cnW W) = ctQ (isN g) (cnW W)
theorem al_e {g : Nat → Nat} {q mo un : Nat} (hW : W ≤ 6) (hi : i < S) (hf : ndR Lk O S W (i + 1) f) (h : alR Lk O S W i f g q mo un) (he : mo ≤ q ∨ 1000 ≤ q ∨ un = 0) : ndR Lk O S W i g := by
  obtain ⟨h1, h2, h3, h4, h5⟩ := h
  have key : ∀ n, n ≤ 1000 → ∀ r, r < cnW W → ndP Lk O S i (unP W r) n → g r = n := by
    intro n
    induction n with
    | zero => exact fun _ r hr hn => h2 r 0 hr (Nat.zero_le _) (by omega) hn
    | succ n ih =>
      intro hn r hr hd
      by_cases c : n + 1 ≤ q
      · exact h2 r (n + 1) hr c hn hd
      · cases hc : cbD Lk O W i r with
        | true =>
          rw [h4 r hr hc]
          exact ndv_e (hf r hr) hn ((nd_t hi hc).mp hd)
        | false =>
          rcases he with he | he | he
          · obtain ⟨t, _, t2, _, t4⟩ := nr_1 hW hr hc hd
            have e := ih (by omega) _ t2 t4
            have := h3 _ t2 (by rw [e]; unfold NKn; omega)
            omega
          · omega
          · -- none is left
            have hs := ctQ_s (P := isN g) (Q := fun r => cbD Lk O W i r) (cnW W)
            have hsame : ctQ (fun r => isN f r && cbD Lk O W i r) (cnW W) = ctQ (fun r => isN g r && cbD Lk O W i r) (cnW W) := ctQ_c _ (fun r hr => by
              cases hc : cbD Lk O W i r with
              | true =>
                unfold isN
                rw [h4 r hr hc]
              | false => rw [Bool.and_false, Bool.and_false])
            have hz : ctQ (fun r => isN g r && !cbD Lk O W i r) (cnW W) = 0 := by omega
            have hz := ctQ_z _ hz r hr
            rw [hc] at hz
            have hz : (isN g r && true) = false := hz
            rw [Bool.and_true] at hz
            have hk : g r ≠ NKn := of_decide_eq_false hz
            rcases h1 r hr with q1 | ⟨_, q2⟩
            · exact absurd q1 hk
            · exact nd_u q2 hd
  intro r hr
  rcases h1 r hr with q1 | q2
  · exact Or.inr ⟨q1, fun n hn hd => by
      have := key n hn r hr hd
      rw [q1] at this
      unfold NKn at this
      omega⟩
  · exact Or.inl q2
theorem al_s {g g' : Nat → Nat} {q mo un F : Nat} (hW : W ≤ 6) (hi : i < S) (hq : q < 1000) (hf : ndR Lk O S W (i + 1) f) (h : alR Lk O S W i f g q mo un) (hs : spr W Lk q g g' (cnW W) 0 F) (hF : F ≤ un → True) : F ≤ un ∧ alR Lk O S W i f g' (q + 1) (if 0 < F then max mo (q + 2) else mo) (un - F) := by
  obtain ⟨h1, h2, h3, h4, h5⟩ := h
  obtain ⟨s1, s2, s3⟩ := hs
  -- who is new is one further
  have new : ∀ r, r < cnW W → g r = NKn → g' r = q + 1 → ndP Lk O S i (unP W r) (q + 1) ∧ cbD Lk O W i r = false := by
    intro r hr e e'
    rcases s1 r hr with z | ⟨_, _, r1, t, a1, a2, a3, a4⟩
    · rw [e, e'] at z
      unfold NKn at z
      omega
    · have hd : ndP Lk O S i (unP W r1) q := by
        rcases h1 r1 a1 with z | ⟨_, z⟩
        · rw [a3] at z
          unfold NKn at z
          omega
        · rw [a3] at z
          exact z
      obtain ⟨b, b1, b2⟩ := nb_1n (i := i) (S := S) hW (by omega) a1 a2 hd
      rw [a4] at b2
      have hb : b = q + 1 := by
        apply Classical.byContradiction
        intro z
        have := h2 r b hr (by omega) (by omega) b2
        rw [e] at this
        unfold NKn at this
        omega
      subst hb
      refine ⟨b2, ?_⟩
      cases hc : cbD Lk O W i r with
      | false => rfl
      | true =>
        have e1 := h4 r hr hc
        have e2 := ndv_e (hf r hr) (show q + 1 ≤ 1000 by omega) ((nd_t hi hc).mp b2)
        rw [e, e2] at e1
        unfold NKn at e1
        omega
  have same : ∀ r, r < cnW W → g r ≠ NKn → g' r = g r := fun r hr hk => by
    rcases s1 r hr with z | ⟨z, _⟩
    · exact z
    · exact absurd z hk
  have c4 : ∀ r, r < cnW W → cbD Lk O W i r = true → g' r = f r := fun r hr hc => by
    rw [← h4 r hr hc]
    rcases s1 r hr with z | ⟨z, z2, _⟩
    · exact z
    · have := (new r hr z z2).2
      rw [hc] at this
      exact absurd this (by decide)
  have sub : ctQ (fun r => isN f r && cbD Lk O W i r) (cnW W) ≤ ctQ (isN g') (cnW W) := by
    have e := ctQ_s (P := isN g') (Q := fun r => cbD Lk O W i r) (cnW W)
    have : ctQ (fun r => isN f r && cbD Lk O W i r) (cnW W) = ctQ (fun r => isN g' r && cbD Lk O W i r) (cnW W) := ctQ_c _ (fun r hr => by
      cases hc : cbD Lk O W i r with
      | true =>
        unfold isN
        rw [c4 r hr hc]
      | false => rw [Bool.and_false, Bool.and_false])
    omega
  refine ⟨by omega, fun r hr => ?_, fun r n hr hn hn2 hd => ?_, fun r hr hk => ?_, c4, by omega⟩
  · rcases s1 r hr with z | ⟨z, z2, _⟩
    · rw [z]
      exact h1 r hr
    · refine Or.inr ?_
      rw [z2]
      exact ⟨by omega, (new r hr z z2).1⟩
  · by_cases c : n ≤ q
    · have e := h2 r n hr c hn2 hd
      rw [same r hr (by rw [e]; unfold NKn; omega)]
      exact e
    · obtain rfl : n = q + 1 := by omega
      cases hc : cbD Lk O W i r with
      | true =>
        rw [c4 r hr hc]
        exact ndv_e (hf r hr) hn2 ((nd_t hi hc).mp hd)
      | false =>
        obtain ⟨t, t1, t2, t3, t4⟩ := nr_1 hW hr hc hd
        have e := h2 _ q t2 (Nat.le_refl _) (by omega) t4
        have := s2 _ t t2 t1 e (Or.inl t2)
        rw [t3] at this
        rcases s1 r hr with z | ⟨_, z2, _⟩
        · rw [z] at this ⊢
          rcases h1 r hr with y | ⟨_, y⟩
          · exact absurd y this
          · exact nd_u y hd
        · exact z2
  · by_cases c : g r = NKn
    · rcases s1 r hr with z | ⟨z, z2, _⟩
      · rw [z] at hk
        exact absurd c hk
      · -- then something was found
        have f0 : 0 < F := by
          apply Classical.byContradiction
          intro y
          have hlt := ctQ_u (P := fun x => isN g' x || decide (x = r)) (Q := isN g') (x := r) (by rw [decide_eq_true rfl, Bool.or_true]) (decide_eq_false hk) (fun x hx => by rw [decide_eq_false hx, Bool.or_false]) (cnW W) hr
          have hle : ctQ (fun x => isN g' x || decide (x = r)) (cnW W) ≤ ctQ (isN g) (cnW W) := by
            have mono : ∀ (P Q : Nat → Bool) n, (∀ x, x < n → P x = true → Q x = true) → ctQ P n ≤ ctQ Q n := by
              intro P Q n
              induction n with
              | zero => exact fun _ => Nat.le_refl _
              | succ n ih =>
                intro hPQ
                have := ih (fun x hx => hPQ x (by omega))
                show ctQ P n + (if P n = true then 1 else 0) ≤ ctQ Q n + (if Q n = true then 1 else 0)
                by_cases p : P n = true
                · rw [if_pos p, if_pos (hPQ n (by omega) p)]
                  omega
                · rw [if_neg p]
                  omega
            refine mono _ _ _ (fun x hx hp => ?_)
            rcases (Bool.or_eq_true _ _).mp hp with a | a
            · have a := of_decide_eq_true a
              refine decide_eq_true ?_
              rcases s1 x hx with b | ⟨b, _⟩
              · rw [← b]
                exact a
              · exact b
            · rw [of_decide_eq_true a]
              exact decide_eq_true c
          omega
        rw [if_pos f0, z2]
        omega
    · have e := same r hr c
      have := h3 r hr c
      rw [e]
      split <;> omega
end RTP
