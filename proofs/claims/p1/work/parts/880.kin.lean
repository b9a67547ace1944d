/-! KIN: the reference's search -/
/-- what the reference knows: which are kin, in what order, how many, the least, how few; i of them are done -/
def RS (n g0 N : Nat) (F : Nat → Bool) (a b : Nat → Int32) (k v6 v7 i : Nat) : Prop := (∀ x, N ≤ x → F x = false) ∧ (∀ x, x < N → a x = if F x = true then 1 else 0) ∧ F g0 = true ∧ (∀ x, F x = true → RC n g0 x) ∧ (∀ j, j < k → ∃ y, y < N ∧ b j = nI y ∧ F y = true) ∧ (∀ x, F x = true → ∃ j, j < k ∧ b j = nI x) ∧ k = cn F 32768 ∧ isLst (fun x => F x = true) v6 ∧ isFew (fun x => F x = true) v7 ∧ ∀ j, j < i → ∀ y, y < N → b j = nI y → ∀ p, p < n → F (cp n p y) = true
theorem RS_new {n g0 N z k v6 v7 i : Nat} {F : Nat → Bool} {a b : Nat → Int32} (hN : N ≤ 32768) (h : RS n g0 N F a b k v6 v7 i) (hik : i ≤ k) (hz : z < N) (hr : RC n g0 z) (hF : F z = false) : RS n g0 N (fun x => F x || x == z) (upd a z 1) (upd b k (nI z)) (k + 1) (if z < v6 then z else v6) (if pc z < v7 then pc z else v7) i := by
  obtain ⟨r1, r2, r3, r4, r5, r6, r7, r8, r9, r10⟩ := h
  refine ⟨fun x hx => ?_, fun x hx => ?_, by simp [r3], fun x q => ?_, fun j hj => ?_, fun x q => ?_, ?_, ?_, ?_, fun j hj y hy e p hp => ?_⟩
  · have : ¬ x = z := by omega
    simp [r1 x hx, this]
  · unfold upd
    by_cases e : x = z
    · simp [e]
    · rw [if_neg e, r2 x hx]
      have : (x == z) = false := by simp [e]
      simp [this]
  · rcases (Bool.or_eq_true _ _).mp q with q | q
    · exact r4 x q
    · rw [eq_of_beq q]; exact hr
  · unfold upd
    by_cases e : j = k
    · exact ⟨z, hz, by rw [if_pos e], by simp⟩
    · obtain ⟨y, y1, y2, y3⟩ := r5 j (by omega)
      exact ⟨y, y1, by rw [if_neg e]; exact y2, by simp [y3]⟩
  · rcases (Bool.or_eq_true _ _).mp q with q | q
    · obtain ⟨j, j1, j2⟩ := r6 x q
      refine ⟨j, by omega, ?_⟩
      unfold upd
      rw [if_neg (by omega)]
      exact j2
    · refine ⟨k, by omega, ?_⟩
      unfold upd
      rw [if_pos rfl, eq_of_beq q]
  · rw [cn_s (F := F) (g := z) (fun x => rfl) hF, if_pos (by omega), r7]
  · obtain ⟨l1, l2, l3⟩ := r8
    by_cases c : z < v6
    · rw [if_pos c]
      refine ⟨by omega, by simp, fun y hy q => ?_⟩
      rcases (Bool.or_eq_true _ _).mp q with q | q
      · have := l3 y hy q; omega
      · rw [eq_of_beq q]; exact Nat.le_refl _
    · rw [if_neg c]
      refine ⟨l1, by simp only []; rw [l2]; rfl, fun y hy q => ?_⟩
      rcases (Bool.or_eq_true _ _).mp q with q | q
      · exact l3 y hy q
      · rw [eq_of_beq q]; omega
  · obtain ⟨⟨x0, l1, l2, l2'⟩, l3⟩ := r9
    by_cases c : pc z < v7
    · rw [if_pos c]
      refine ⟨⟨z, by omega, by simp, rfl⟩, fun y hy q => ?_⟩
      rcases (Bool.or_eq_true _ _).mp q with q | q
      · have := l3 y hy q; omega
      · rw [eq_of_beq q]; exact Nat.le_refl _
    · rw [if_neg c]
      refine ⟨⟨x0, l1, by simp only []; rw [l2]; rfl, l2'⟩, fun y hy q => ?_⟩
      rcases (Bool.or_eq_true _ _).mp q with q | q
      · exact l3 y hy q
      · rw [eq_of_beq q]; omega
  · unfold upd at e
    rw [if_neg (by omega)] at e
    have := r10 j hj y hy e p hp
    simp [this]
theorem RS_end {n g0 N k v6 v7 : Nat} {F : Nat → Bool} {a b : Nat → Int32} (hn : n ≤ 6) (hN : N = 2 ^ (n * (n - 1) / 2)) (h : RS n g0 N F a b k v6 v7 k) (x : Nat) : F x = true ↔ RC n g0 x := by
  obtain ⟨r1, r2, r3, r4, r5, r6, r7, r8, r9, r10⟩ := h
  have hm := m15 hn
  have hFN : ∀ x, F x = true → x < N := fun x q => by
    apply Decidable.byContradiction
    intro hc
    rw [r1 x (by omega)] at q
    cases q
  refine ⟨r4 x, fun q => RC_c (F := fun y => F y = true) (fun y hy p hp => ?_) r3 q⟩
  obtain ⟨j, j1, j2⟩ := r6 y hy
  exact r10 j j1 y (hFN y hy) j2 p hp
section KNR
variable {d : Nat} {M : mm_M} {n g0 : Nat} {w3 : Int32}
theorem bool1 : vp_nar (if (2 : Nat) = 2 then .boolean else .byte) 1 = 1 := by decide
theorem bool0 : vp_nar (if (2 : Nat) = 2 then .boolean else .byte) 0 = 0 := by decide
set_option maxRecDepth 100000 in
theorem rk_l0 {P : am_Q} {X : am_X} {N : Nat} (hX : am_K d false nm_X12_kin P X) (hN : N ≤ 32768) (hK : ∀ l5, X 74 [some (aR 108), some (aI (nI n)), some (aI (nI g0)), some (aI w3), some (aI (nI N)), l5, none, none, none, none, none] [] (mm_i M 164 (fun j => if j < N then 0 else M.1 164 j))) : ∀ (m i : Nat), i + m = N → X 53 [some (aR 108), some (aI (nI n)), some (aI (nI g0)), some (aI w3), some (aI (nI N)), some (aI (nI i)), none, none, none, none, none] [] (mm_i M 164 (fun j => if j < i then 0 else M.1 164 j)) := by
  intro m
  induction m with
  | zero =>
    intro i hi
    have hi : i = N := by omega
    subst hi
    refine am_run hX 3 _ _ _ _ ?_
    conv => whnf
    exact ⟨fun _ => hK _, fun c => absurd (nI_le (Nat.le_refl _) (by omega)) c⟩
  | succ m ih =>
    intro i hi
    refine am_run hX 3 _ _ _ _ ?_
    conv => whnf
    refine ⟨fun c => absurd c (nI_ge (by omega) (by omega)), fun _ => ?_⟩
    refine am_run hX 7 _ _ _ _ ?_
    conv => whnf
    refine ⟨vp_in_nI (by show _ < 32768; omega) (by decide), ?_⟩
    conv => whnf
    rw [nI_clamp (n := i) (by omega), nI_1, bool0, mm_i1, mm_ii]
    have e : upd (fun j => if j < i then 0 else M.1 164 j) i 0 = fun j => if j < i + 1 then 0 else M.1 164 j := by
      funext j
      unfold upd
      by_cases h : j = i
      · rw [if_pos h, if_pos (by omega)]
      · rw [if_neg h]
        dsimp only
        by_cases h2 : j < i
        · rw [if_pos h2, if_pos (by omega)]
        · rw [if_neg h2, if_neg (by omega)]
    rw [e]
    exact ih (i + 1) (by omega)
theorem nI_ix {a b : Nat} (ha : a < 2 ^ 31) (hb : b < 2 ^ 31) : (if nI a < nI b then nI a else nI b) = nI (if a < b then a else b) := nI_it ha hb
set_option maxRecDepth 100000 in
theorem rk_l2 {P : am_Q} {X : am_X} {N i y : Nat} (hX : am_K (d + 3) false nm_X12_kin P X) (hn : n ≤ 6) (hN : N = 2 ^ (n * (n - 1) / 2)) (hy : y < N) (hry : RC n g0 y) (hK : ∀ F a b k v6 v7, RS n g0 N F a b k v6 v7 i → i < k → b i = nI y → (∀ p, p < n → F (cp n p y) = true) → ∀ l9 l10, X 211 [some (aR 108), some (aI (nI n)), some (aI (nI g0)), some (aI w3), some (aI (nI N)), some (aI (nI k)), some (aI (nI v6)), some (aI (nI v7)), some (aI (nI i)), l9, l10] [] (mm_i (mm_i M 164 a) 165 b)) : ∀ (m p : Nat), p + m = n → ∀ F a b k v6 v7, RS n g0 N F a b k v6 v7 i → i < k → b i = nI y → (∀ q, q < p → F (cp n q y) = true) → ∀ l10, X 113 [some (aR 108), some (aI (nI n)), some (aI (nI g0)), some (aI w3), some (aI (nI N)), some (aI (nI k)), some (aI (nI v6)), some (aI (nI v7)), some (aI (nI i)), some (aI (nI p)), l10] [] (mm_i (mm_i M 164 a) 165 b) := by
  have hm := m15 hn
  intro m
  induction m with
  | zero =>
    intro p hp F a b k v6 v7 h hik hb hq l10
    have hp : p = n := by omega
    subst hp
    refine am_run hX 3 _ _ _ _ ?_
    conv => whnf
    exact ⟨fun _ => hK F a b k v6 v7 h hik hb hq _ _, fun c => absurd (nI_le (Nat.le_refl _) (by omega)) c⟩
  | succ m ih =>
    intro p hp F a b k v6 v7 h hik hb hq l10
    have hk : k = cn F 32768 := h.2.2.2.2.2.2.1
    have hkl := cn_le F 32768
    have hv6 := h.2.2.2.2.2.2.2.1.1
    have hv7 : v7 ≤ 15 := by
      obtain ⟨⟨x0, l1, l2, l3⟩, _⟩ := h.2.2.2.2.2.2.2.2.1
      rw [l3]; exact pc15 l1
    have hz : cp n p y < N := by rw [hN]; exact cp_lt hn p (by omega)
    have hpz := pc15 (x := cp n p y) (by omega)
    refine am_run hX 3 _ _ _ _ ?_
    conv => whnf
    refine ⟨fun c => absurd c (nI_ge (by omega) (by omega)), fun _ => ?_⟩
    refine am_run hX 13 _ _ _ _ ?_
    conv => whnf
    refine ⟨vp_in_nI (by show _ < 32768; omega) (by decide), ?_⟩
    conv => whnf
    rw [nI_clamp (n := i) (by omega), mm_i1, hb]
    refine am_c1 (ct_cp2 (d := d) (n := n) (g := y) (p := p) hn (by omega) (by omega)) ?_
    conv => whnf
    refine ⟨vp_in_nI (by show _ < 32768; omega) (by decide), ?_⟩
    conv => whnf
    have e164 : (mm_i (mm_i M 164 a) 165 b).1 164 (cp n p y) = if F (cp n p y) = true then 1 else 0 := by
      rw [mm_ne _ _ _ _ (by decide), mm_i1]
      exact h.2.1 _ hz
    rw [nI_clamp (n := cp n p y) (by omega), e164]
    by_cases hF : F (cp n p y) = true
    · rw [if_pos hF]
      refine ⟨fun c => absurd c (by decide), fun _ => ?_⟩
      refine am_run hX 3 _ _ _ _ ?_
      conv => whnf
      rw [nI_1]
      refine ih (p + 1) (by omega) F a b k v6 v7 h hik hb (fun q hq' => ?_) _
      by_cases e : q = p
      · rw [e]; exact hF
      · exact hq q (by omega)
    · rw [if_neg hF]
      have hF : F (cp n p y) = false := by simpa using hF
      have hnew := RS_new (by omega) h (by omega) hz (RC_s hry (by omega)) hF
      have hkb : k < 32768 := by
        have h1 := hnew.2.2.2.2.2.2.1
        have h2 := cn_le (fun x => F x || x == cp n p y) 32768
        omega
      refine ⟨fun _ => ?_, fun c => absurd rfl c⟩
      refine am_run hX 11 _ _ _ _ ?_
      conv => whnf
      refine ⟨vp_in_nI (by show _ < 32768; omega) (by decide), ?_⟩
      conv => whnf
      refine ⟨vp_in_nI (by show _ < 32768; omega) (by decide), ?_⟩
      conv => whnf
      rw [nI_clamp (n := cp n p y) (by omega), nI_clamp (n := k) (by omega), bool1, nI_1]
      have eM : mm_i (mm_i (mm_i (mm_i M 164 a) 165 b) 164 (upd ((mm_i (mm_i M 164 a) 165 b).1 164) (cp n p y) 1)) 165 (upd ((mm_i (mm_i (mm_i M 164 a) 165 b) 164 (upd ((mm_i (mm_i M 164 a) 165 b).1 164) (cp n p y) 1)).1 165) k (nI (cp n p y))) = mm_i (mm_i M 164 (upd a (cp n p y) 1)) 165 (upd b k (nI (cp n p y))) := by
        rw [mm_ne _ 165 164 _ (by decide), mm_i1, mm_ic _ 165 164 _ _ (by decide), mm_ii, mm_i1, mm_ii]
      rw [eM]
      have h183 : ∀ v, v = (if cp n p y < v6 then cp n p y else v6) → X 183 [some (aR 108), some (aI (nI n)), some (aI (nI g0)), some (aI w3), some (aI (nI N)), some (aI (nI (k + 1))), some (aI (nI v)), some (aI (nI v7)), some (aI (nI i)), some (aI (nI p)), some (aI (nI (cp n p y)))] [] (mm_i (mm_i M 164 (upd a (cp n p y) 1)) 165 (upd b k (nI (cp n p y)))) := fun v ev => by
        subst ev
        have hfin : ∀ v', v' = (if pc (cp n p y) < v7 then pc (cp n p y) else v7) → X 205 [some (aR 108), some (aI (nI n)), some (aI (nI g0)), some (aI w3), some (aI (nI N)), some (aI (nI (k + 1))), some (aI (nI (if cp n p y < v6 then cp n p y else v6))), some (aI (nI v')), some (aI (nI i)), some (aI (nI p)), some (aI (nI (cp n p y)))] [] (mm_i (mm_i M 164 (upd a (cp n p y) 1)) 165 (upd b k (nI (cp n p y)))) := fun v' ev' => by
          subst ev'
          refine am_run hX 2 _ _ _ _ ?_
          conv => whnf
          rw [nI_1]
          refine ih (p + 1) (by omega) _ _ _ (k + 1) _ _ hnew (by omega) ?_ (fun q hq' => ?_) _
          · unfold upd
            rw [if_neg (by omega)]
            exact hb
          · by_cases e : q = p
            · rw [e]; simp
            · simp [hq q (by omega)]
        refine am_run hX 4 _ _ _ _ ?_
        conv => whnf
        refine am_c1 (ct_count (d + 2) _ (by omega) _) ?_
        conv => whnf
        refine ⟨fun hc => ?_, fun hc => ?_⟩
        · have hc : v7 ≤ pc (cp n p y) := by
            apply Decidable.byContradiction
            intro h2
            exact nI_ge (a := pc (cp n p y)) (b := v7) (by omega) (by omega) hc
          refine am_run hX 2 _ _ _ _ ?_
          conv => whnf
          exact hfin v7 (by rw [if_neg (by omega)])
        · have hc : pc (cp n p y) < v7 := by
            apply Decidable.byContradiction
            intro h2
            exact hc (nI_le (by omega) (by omega))
          refine am_run hX 4 _ _ _ _ ?_
          conv => whnf
          refine am_c1 (ct_count (d + 2) _ (by omega) _) ?_
          conv => whnf
          exact hfin _ (by rw [if_pos hc])
      refine am_run hX 3 _ _ _ _ ?_
      conv => whnf
      refine ⟨fun hc => ?_, fun hc => ?_⟩
      · have hc : v6 ≤ cp n p y := by
          apply Decidable.byContradiction
          intro h2
          exact nI_ge (a := cp n p y) (b := v6) (by omega) (by omega) hc
        refine am_run hX 2 _ _ _ _ ?_
        conv => whnf
        exact h183 v6 (by rw [if_neg (by omega)])
      · have hc : cp n p y < v6 := by
          apply Decidable.byContradiction
          intro h2
          exact hc (nI_le (by omega) (by omega))
        refine am_run hX 3 _ _ _ _ ?_
        conv => whnf
        exact h183 _ (by rw [if_pos hc])
set_option maxRecDepth 100000 in
theorem rk_l1 {P : am_Q} {X : am_X} {N : Nat} (hX : am_K (d + 3) false nm_X12_kin P X) (hn : n ≤ 6) (hN : N = 2 ^ (n * (n - 1) / 2)) (hK : ∀ F a b k v6 v7, RS n g0 N F a b k v6 v7 k → ∀ l8 l9 l10, X 217 [some (aR 108), some (aI (nI n)), some (aI (nI g0)), some (aI w3), some (aI (nI N)), some (aI (nI k)), some (aI (nI v6)), some (aI (nI v7)), l8, l9, l10] [] (mm_i (mm_i M 164 a) 165 b)) : ∀ (m i : Nat), i + m = 32768 → ∀ F a b k v6 v7, RS n g0 N F a b k v6 v7 i → i ≤ k → ∀ l9 l10, X 103 [some (aR 108), some (aI (nI n)), some (aI (nI g0)), some (aI w3), some (aI (nI N)), some (aI (nI k)), some (aI (nI v6)), some (aI (nI v7)), some (aI (nI i)), l9, l10] [] (mm_i (mm_i M 164 a) 165 b) := by
  intro m
  induction m with
  | zero =>
    intro i hi F a b k v6 v7 h hik l9 l10
    have hk : k = cn F 32768 := h.2.2.2.2.2.2.1
    have hkl := cn_le F 32768
    have e : i = k := by omega
    subst e
    refine am_run hX 3 _ _ _ _ ?_
    conv => whnf
    exact ⟨fun _ => hK F a b i v6 v7 h _ _ _, fun c => absurd (nI_le (Nat.le_refl _) (by omega)) c⟩
  | succ m ih =>
    intro i hi F a b k v6 v7 h hik l9 l10
    have hk : k = cn F 32768 := h.2.2.2.2.2.2.1
    have hkl := cn_le F 32768
    by_cases e : i = k
    · subst e
      refine am_run hX 3 _ _ _ _ ?_
      conv => whnf
      exact ⟨fun _ => hK F a b i v6 v7 h _ _ _, fun c => absurd (nI_le (Nat.le_refl _) (by omega)) c⟩
    · refine am_run hX 3 _ _ _ _ ?_
      conv => whnf
      refine ⟨fun c => absurd c (nI_ge (by omega) (by omega)), fun _ => ?_⟩
      refine am_run hX 2 _ _ _ _ ?_
      conv => whnf
      obtain ⟨y, y1, y2, y3⟩ := h.2.2.2.2.1 i (by omega)
      refine rk_l2 hX hn hN y1 (h.2.2.2.1 y y3) (fun F a b k v6 v7 h hik hb hq l9 l10 => ?_) n 0 (by omega) F a b k v6 v7 h (by omega) y2 (fun q hq => by omega) _
      refine am_run hX 2 _ _ _ _ ?_
      conv => whnf
      rw [nI_1]
      refine ih (i + 1) (by omega) F a b k v6 v7 ?_ (by omega) _ _
      obtain ⟨r1, r2, r3, r4, r5, r6, r7, r8, r9, r10⟩ := h
      refine ⟨r1, r2, r3, r4, r5, r6, r7, r8, r9, fun j hj z hz ez p hp => ?_⟩
      by_cases ej : j = i
      · subst ej
        rw [hb] at ez
        have hm := m15 hn
        have : y = z := (nI_eq (by omega) (by omega)).mp ez
        rw [← this]
        exact hq p hp
      · exact r10 j (by omega) z hz ez p hp
end KNR
