/-! the least cost: the class -/
theorem xl0 (G : Nat → Nat) : xl G 0 = 0 := by
  have : ∀ i, xr G 0 i = 0 := by
    intro i
    induction i with
    | zero => rfl
    | succ i ih => simp [xr, ih]
  exact this 9
theorem CO_c {G c c' : Nat → Nat} {S : Nat} (h0 : 0 < S) (e : ∀ T, 0 < T → T ≤ S → c T = c' T) (h : CO G c S) : CO G c' S := by
  have ea : ∀ a, SP S a → cst G c S a = cst G c' S a := fun a ha => by
    have hb := SP_o ha
    unfold cst
    rw [e a ha.1 (by have := ha.2.1; omega), e _ hb.1 (by have := hb.2.1; omega)]
  refine ⟨fun hp => by rw [← e S h0 (Nat.le_refl _)]; exact h.1 hp, fun hp => ⟨fun a ha => ?_, ?_⟩⟩
  · rw [← e S h0 (Nat.le_refl _), ← ea a ha]
    exact (h.2 hp).1 a ha
  · obtain ⟨a, ha, q⟩ := (h.2 hp).2
    exact ⟨a, ha, by rw [← e S h0 (Nat.le_refl _), ← ea a ha]; exact q⟩
theorem sh2 : ∀ p, p < 31 → (1 : Int32) <<< (nI p &&& 31) = nI (2 ^ p) := by decide +kernel
theorem nI_it {a b : Nat} (ha : a < 2 ^ 31) (hb : b < 2 ^ 31) : (if nI a < nI b then nI a else nI b) = nI (if a < b then a else b) := by
  by_cases h : a < b
  · rw [if_pos h, if_pos (nI_lt h hb)]
  · rw [if_neg h, if_neg (nI_nlt (by omega) ha)]
theorem rs_S {S t : Nat} (h : t &&& (S &&& (S - 1)) = t) : t &&& S = t := sb_of fun i hi => by
  have := sb_bit h i hi
  rw [Nat.testBit_and] at this
  simp at this
  exact this.1
theorem rs_SP {S t : Nat} (hS : S < 512) (h0 : 0 < S) (ht : 0 < t) (h : t &&& (S &&& (S - 1)) = t) : SP S t := by
  have h1 := (lw_f S hS h0).2.2.2.2.2
  have h2 : t ≤ S &&& (S - 1) := by rw [← h]; exact Nat.and_le_right
  exact ⟨ht, by omega, rs_S h⟩
section COC
variable {d : Nat} {M : mm_M} {G c : Nat → Nat} {S : Nat}
set_option maxRecDepth 100000 in
theorem cl_loop {P : am_Q} {X : am_X} (hX : am_K (d + 1) false nm_X7_leastSplit P X) (hS : S < 512) (h0 : 0 < S) (hr0 : S &&& (S - 1) ≠ 0) (hG : ∀ i, i < 9 → G i < 65536) (h81 : ∀ T, 0 < T → T < S → M.1 81 T = nI (xl G T)) (h82 : ∀ T, 0 < T → T < S → M.1 82 T = nI (c T)) (hb : ∀ T, 0 < T → T < S → c T ≤ 65536 * (T - 1)) (hP : ∀ v, (∀ t, 0 < t → t &&& (S &&& (S - 1)) = t → v ≤ cst G c S t) → (∃ t, 0 < t ∧ t &&& (S &&& (S - 1)) = t ∧ v = cst G c S t) → P (.inl (some (aI (nI v)))) M) : ∀ s l, s &&& (S &&& (S - 1)) = s → l ≤ 2 ^ 30 → ((l = 2 ^ 30 ∧ s = S &&& (S - 1)) ∨ ∃ t, 0 < t ∧ t &&& (S &&& (S - 1)) = t ∧ l = cst G c S t) → (∀ t, 0 < t → t &&& (S &&& (S - 1)) = t → s < t → l ≤ cst G c S t) → ∀ l5 l6, X 6 [some (aR 70), some (aI (nI S)), some (aI (nI (S &&& (S - 1)))), some (aI (nI l)), some (aI (nI s)), l5, l6] [] M := by
  intro s
  induction s using Nat.strongRecOn with
  | _ s ih =>
    intro l hs hl hat hall l5 l6
    by_cases hs0 : s = 0
    · subst hs0
      refine am_run hX 4 _ _ _ _ ?_
      conv => whnf
      refine ⟨fun _ => ?_, fun c => absurd (by decide) c⟩
      conv => whnf
      refine ⟨trivial, hP l (fun t h1 h2 => hall t h1 h2 h1) ?_⟩
      rcases hat with ⟨_, e⟩ | h
      · exact absurd e.symm hr0
      · exact h
    · have hsp := rs_SP hS h0 (by omega) hs
      have hso := SP_o hsp
      have hlt := hsp.2.1
      have hot := hso.2.1
      have hcb := cst_b hG hb hsp
      have hw := wt_n hG s (S ^^^ s)
      refine am_run hX 2 _ _ _ _ ?_
      conv => whnf
      refine ⟨fun c => absurd c (nI_nle (by omega) (by omega)), fun _ => ?_⟩
      refine am_run hX 38 _ _ _ _ ?_
      conv => whnf
      refine ⟨vp_in_nI (by show s < 512; omega) (by decide), ?_⟩
      conv => whnf
      rw [nI_xor]
      refine ⟨vp_in_nI (by show _ < 512; omega) (by decide), ?_⟩
      conv => whnf
      rw [nI_clamp (by omega), nI_clamp (by omega), h81 s hsp.1 hlt, h81 _ hso.1 hot, nI_or]
      refine am_c1 (ct_bit16 d _ hw.1 _) ?_
      conv => whnf
      refine ⟨vp_in_nI (by show s < 512; omega) (by decide), ?_⟩
      conv => whnf
      refine ⟨vp_in_nI (by show _ < 512; omega) (by decide), ?_⟩
      conv => whnf
      rw [nI_clamp (by omega), nI_clamp (by omega), h82 s hsp.1 hlt, h82 _ hso.1 hot, sh2 _ (by omega), nI_add, nI_add]
      have ec : c s + c (S ^^^ s) + 2 ^ pc (xl G s ||| xl G (S ^^^ s)) = cst G c S s := rfl
      rw [ec, nI_it (by omega) (by omega), nI_s1 s (by omega), nI_and]
      have hlt2 : (s - 1) &&& (S &&& (S - 1)) < s := Nat.lt_of_le_of_lt Nat.and_le_left (by omega)
      refine ih ((s - 1) &&& (S &&& (S - 1))) hlt2 (if cst G c S s < l then cst G c S s else l) (by rw [Nat.and_assoc, Nat.and_self]) (by split <;> omega) (Or.inr ?_) (fun t t1 t2 t3 => ?_) _ _
      · by_cases hc : cst G c S s < l
        · rw [if_pos hc]; exact ⟨s, by omega, hs, rfl⟩
        · rw [if_neg hc]
          rcases hat with ⟨e, _⟩ | h
          · omega
          · exact h
      · by_cases ht : s < t
        · have := hall t t1 t2 ht
          split <;> omega
        · by_cases e : t = s
          · subst e
            split <;> omega
          · have := sub_le s _ t hs t2 (by omega)
            omega
set_option maxRecDepth 100000 in
theorem cl_split (hS : S < 512) (h0 : 0 < S) (hr0 : S &&& (S - 1) ≠ 0) (hG : ∀ i, i < 9 → G i < 65536) (h81 : ∀ T, 0 < T → T < S → M.1 81 T = nI (xl G T)) (h82 : ∀ T, 0 < T → T < S → M.1 82 T = nI (c T)) (hb : ∀ T, 0 < T → T < S → c T ≤ 65536 * (T - 1)) : am_M (d + 2) false nm_X7_leastSplit [aR 70, aI (nI S), aI (nI (S &&& (S - 1)))] M (fun r M' => M' = M ∧ ∃ v, r = .inl (some (aI (nI v))) ∧ (∀ t, 0 < t → t &&& (S &&& (S - 1)) = t → v ≤ cst G c S t) ∧ ∃ t, 0 < t ∧ t &&& (S &&& (S - 1)) = t ∧ v = cst G c S t) := by
  refine ⟨rfl, rfl, rfl, fun X hX => am_run hX 4 _ _ _ _ ?_⟩
  conv => whnf
  refine cl_loop hX hS h0 hr0 hG h81 h82 hb (fun v h1 h2 => ⟨rfl, v, rfl, h1, h2⟩) (S &&& (S - 1)) (2 ^ 30) (Nat.and_self _) (Nat.le_refl _) (Or.inl ⟨rfl, rfl⟩) (fun t _ t2 t3 => ?_) _ _
  have : t ≤ S &&& (S - 1) := by
    have h := @Nat.and_le_right t (S &&& (S - 1))
    rw [t2] at h
    exact h
  omega
set_option maxRecDepth 100000 in
theorem ct_low (hS : S < 512) (h0 : 0 < S) : am_M (d + 2) false nm_X0_lowest [aI (nI S)] M (am_q1 (aI (nI (lw S))) M) := by
  obtain ⟨e1, e2, _⟩ := lw_f S hS h0
  refine ⟨rfl, rfl, rfl, fun X hX => am_run hX 20 _ _ _ _ ?_⟩
  conv => whnf
  rw [e1]
  refine am_c1 (ct_bit16 d _ e2 _) ?_
  conv => whnf
  exact ⟨trivial, rfl, rfl⟩
/-- what is known of the sets below k -/
def cl_I (G c : Nat → Nat) (f g : Nat → Int32) (k : Nat) : Prop := (∀ T, T < k → f T = nI (xl G T)) ∧ ∀ T, 0 < T → T < k → g T = nI (c T) ∧ CO G c T ∧ c T ≤ 65536 * (T - 1)
theorem cl_next {f g : Nat → Int32} {k v : Nat} (h0 : 0 < k) (h : cl_I G c f g k) (h1 : k &&& (k - 1) = 0 → v = 0) (h2 : k &&& (k - 1) ≠ 0 → (∀ a, SP k a → v ≤ cst G c k a) ∧ ∃ a, SP k a ∧ v = cst G c k a) (hG : ∀ i, i < 9 → G i < 65536) : cl_I G (fun T => if T = k then v else c T) (upd f k (nI (xl G k))) (upd g k (nI v)) (k + 1) := by
  have ea : ∀ a, SP k a → cst G c k a = cst G (fun T => if T = k then v else c T) k a := fun a ha => by
    have hb := SP_o ha
    unfold cst
    simp only []
    rw [if_neg (by have := ha.2.1; omega), if_neg (by have := hb.2.1; omega)]
  refine ⟨fun T hT => ?_, fun T hT0 hT => ?_⟩
  · unfold upd
    by_cases e : T = k
    · rw [if_pos e, e]
    · rw [if_neg e, h.1 T (by omega)]
  · by_cases e : T = k
    · subst e
      refine ⟨by simp [upd], ⟨fun hp => by simp [h1 hp], fun hp => ⟨fun a ha => ?_, ?_⟩⟩, ?_⟩
      · rw [← ea a ha]
        simpa using (h2 hp).1 a ha
      · obtain ⟨a, ha, q⟩ := (h2 hp).2
        exact ⟨a, ha, by rw [← ea a ha]; simpa using q⟩
      · by_cases hp : T &&& (T - 1) = 0
        · simp [h1 hp]
        · obtain ⟨a, ha, q⟩ := (h2 hp).2
          have := cst_b hG (fun U u0 u1 => (h.2 U u0 u1).2.2) ha
          simp only [if_true]
          omega
    · obtain ⟨q1, q2, q3⟩ := h.2 T hT0 (by omega)
      refine ⟨by simp [upd, e, q1], CO_c hT0 (fun U u0 u1 => ?_) q2, ?_⟩
      · rw [if_neg (by omega)]
      · simp only [if_neg e]
        exact q3
end COC
