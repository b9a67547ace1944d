/-! COUNTS: a row without doubles has as many as are counted; both settle alike -/
def delN (κ : Nat → Nat) (l0 : Nat) : Nat → Nat := fun l => if l < l0 then κ l else κ (l + 1)
theorem delN_lo {κ : Nat → Nat} {l0 l : Nat} (h : l < l0) : delN κ l0 l = κ l := if_pos h
theorem delN_hi {κ : Nat → Nat} {l0 l : Nat} (h : ¬ l < l0) : delN κ l0 l = κ (l + 1) := if_neg h
theorem delN_e {κ : Nat → Nat} {c l0 l : Nat} (hl : l < c) : ∃ l', l' < c + 1 ∧ l' ≠ l0 ∧ delN κ l0 l = κ l' := by
  by_cases h : l < l0
  · exact ⟨l, by omega, by omega, delN_lo h⟩
  · exact ⟨l + 1, by omega, by omega, delN_hi h⟩
theorem delN_i {κ : Nat → Nat} {c l0 : Nat} (hi : ∀ a b, a < c + 1 → b < c + 1 → κ a = κ b → a = b) : ∀ a b, a < c → b < c → delN κ l0 a = delN κ l0 b → a = b := by
  intro a b ha hb e
  by_cases h1 : a < l0
  · by_cases h2 : b < l0
    · rw [delN_lo h1, delN_lo h2] at e
      exact hi a b (by omega) (by omega) e
    · rw [delN_lo h1, delN_hi h2] at e
      have := hi a (b + 1) (by omega) (by omega) e
      omega
  · by_cases h2 : b < l0
    · rw [delN_hi h1, delN_lo h2] at e
      have := hi (a + 1) b (by omega) (by omega) e
      omega
    · rw [delN_hi h1, delN_hi h2] at e
      have := hi (a + 1) (b + 1) (by omega) (by omega) e
      omega
theorem cnn_ge {kk : Nat → Nat} {p : Nat → Bool} : ∀ (n c : Nat) (κ : Nat → Nat), (∀ a b, a < c → b < c → κ a = κ b → a = b) → (∀ l, l < c → ∃ j, j < n ∧ kk j = κ l ∧ p j = true) → c ≤ cntN p n
  | 0, c, κ, _, h => by
    by_cases hc : c = 0
    · omega
    · obtain ⟨j, hj, _⟩ := h 0 (by omega)
      omega
  | n + 1, c, κ, hi, h => by
    cases hp : p n with
    | false =>
      rw [cnn_0 hp]
      refine cnn_ge (kk := kk) n c κ hi fun l hl => ?_
      obtain ⟨j, hj, e1, e2⟩ := h l hl
      by_cases ej : j = n
      · rw [ej, hp] at e2
        exact absurd e2 (by decide)
      · exact ⟨j, by omega, e1, e2⟩
    | true =>
      rw [cnn_1 hp]
      rcases mem_dec κ (kk n) c with ⟨l0, hl0, e0⟩ | hno
      · obtain ⟨c', rfl⟩ : ∃ c', c = c' + 1 := ⟨c - 1, by omega⟩
        have key := cnn_ge (kk := kk) n c' (delN κ l0) (delN_i hi) fun l hl => by
          obtain ⟨l', h1, h2, h3⟩ := delN_e (κ := κ) (l0 := l0) hl
          obtain ⟨j, hj, e1, e2⟩ := h l' h1
          by_cases ej : j = n
          · rw [ej, ← e0] at e1
            exact absurd (hi l0 l' hl0 h1 e1).symm h2
          · exact ⟨j, by omega, by rw [h3, e1], e2⟩
        omega
      · have key := cnn_ge (kk := kk) n c κ hi fun l hl => by
          obtain ⟨j, hj, e1, e2⟩ := h l hl
          by_cases ej : j = n
          · rw [ej] at e1
            exact absurd e1.symm (hno l hl)
          · exact ⟨j, by omega, e1, e2⟩
        omega
theorem cnn_up {kk : Nat → Nat} {p : Nat → Bool} : ∀ (n c : Nat) (κ : Nat → Nat), (∀ a b, a < n → b < n → kk a = kk b → a = b) → (∀ j, j < n → p j = true → ∃ l, l < c ∧ κ l = kk j) → cntN p n ≤ c
  | 0, _, _, _, _ => Nat.zero_le _
  | n + 1, c, κ, hd, h => by
    have hd' : ∀ a b, a < n → b < n → kk a = kk b → a = b := fun a b ha hb e => hd a b (by omega) (by omega) e
    cases hp : p n with
    | false =>
      rw [cnn_0 hp]
      exact cnn_up (kk := kk) n c κ hd' fun j hj => h j (by omega)
    | true =>
      rw [cnn_1 hp]
      obtain ⟨l0, hl0, e0⟩ := h n (by omega) hp
      obtain ⟨c', rfl⟩ : ∃ c', c = c' + 1 := ⟨c - 1, by omega⟩
      have key := cnn_up (kk := kk) n c' (delN κ l0) hd' fun j hj hpj => by
        obtain ⟨l, hl, e⟩ := h j (by omega) hpj
        have hne : l ≠ l0 := fun z => by
          rw [z, e0] at e
          have := hd n j (by omega) (by omega) e
          omega
        by_cases h1 : l < l0
        · exact ⟨l, by omega, by rw [delN_lo h1]; exact e⟩
        · exact ⟨l - 1, by omega, by rw [delN_hi (by omega), Nat.sub_add_cancel (by omega)]; exact e⟩
      omega
theorem ris_i {κ : Nat → Nat} {c : Nat} (r : ∀ i j, i < j → j < c → κ i < κ j) : ∀ a b, a < c → b < c → κ a = κ b → a = b := fun a b ha hb e => by
  rcases Nat.lt_trichotomy a b with h | h | h
  · have := r a b h hb
    omega
  · exact h
  · have := r b a h ha
    omega
theorem ris_eq {κ κ' : Nat → Nat} : ∀ c, (∀ i j, i < j → j < c → κ i < κ j) → (∀ i j, i < j → j < c → κ' i < κ' j) → (∀ x, (∃ j, j < c ∧ κ j = x) ↔ ∃ j, j < c ∧ κ' j = x) → ∀ j, j < c → κ j = κ' j
  | 0, _, _, _ => fun j hj => absurd hj (Nat.not_lt_zero _)
  | c + 1, r, r', m => by
    have up : ∀ {μ : Nat → Nat}, (∀ i j, i < j → j < c + 1 → μ i < μ j) → ∀ j, j < c + 1 → μ j ≤ μ c := fun {μ} s j hj => by
      by_cases e : j = c
      · rw [e]
        exact Nat.le_refl _
      · exact Nat.le_of_lt (s j c (by omega) (by omega))
    have top : κ c = κ' c := by
      obtain ⟨j, hj, e⟩ := (m (κ c)).mp ⟨c, by omega, rfl⟩
      obtain ⟨i, hi, e'⟩ := (m (κ' c)).mpr ⟨c, by omega, rfl⟩
      have a := up r' j hj
      have b := up r i hi
      omega
    have low := ris_eq c (fun i j a b => r i j a (by omega)) (fun i j a b => r' i j a (by omega)) fun x => by
      constructor
      · rintro ⟨j, hj, e⟩
        obtain ⟨i, hi, e'⟩ := (m x).mp ⟨j, by omega, e⟩
        by_cases ei : i = c
        · have := r j c hj (by omega)
          rw [ei] at e'
          omega
        · exact ⟨i, by omega, e'⟩
      · rintro ⟨j, hj, e⟩
        obtain ⟨i, hi, e'⟩ := (m x).mpr ⟨j, by omega, e⟩
        by_cases ei : i = c
        · have := r' j c hj (by omega)
          rw [ei] at e'
          omega
        · exact ⟨i, by omega, e'⟩
    intro j hj
    by_cases e : j = c
    · rw [e]
      exact top
    · exact low j (by omega)
section ALK
variable {kk κ : Nat → Nat} {n c : Nat}
theorem hqf_i {F : Nat → Int64} {j : Nat} (hj : j < c) : hqf c F j = F j >>> 1 := if_pos hj
theorem alk_h {f g F G : Nat → Int64} (hd : ∀ a b, a < n → b < n → kk a = kk b → a = b) (h : alkS kk κ n c f g F G) (he : allN (fun j => evJ (f (kk j)) && evJ (g (kk j))) n = true) : alkS kk κ n c (hvF kk f n) (hvF kk g n) (hqf c F) (hqf c G) := by
  obtain ⟨h1, h2, h3⟩ := h
  have ev : ∀ i, i < n → evJ (f (kk i)) = true ∧ evJ (g (kk i)) = true := fun i hi => by
    have := (all_iff n).mp he i hi
    rw [Bool.and_eq_true] at this
    exact this
  refine ⟨h1, fun i hi hz => ?_, fun j hj => ?_⟩
  · rw [hvF_i hd n (Nat.le_refl _) hi, hvF_i hd n (Nat.le_refl _) hi, nz_h (ev i hi).1 (ev i hi).2] at hz
    exact h2 i hi hz
  · obtain ⟨i, hi, e⟩ := h1 j hj
    rw [hqf_i hj, hqf_i hj, (h3 j hj).1, (h3 j hj).2, ← e, hvF_i hd n (Nat.le_refl _) hi, hvF_i hd n (Nat.le_refl _) hi, hv_b (ev i hi).1, hv_b (ev i hi).2]
    exact ⟨rfl, rfl⟩
theorem alk_st (hd : ∀ a b, a < n → b < n → kk a = kk b → a = b) : ∀ k f g F G, alkS kk κ n c f g F G → (rtl kk n k f g).1 = (stl c k F G).1 ∧ alkS kk κ n c (rtl kk n k f g).2.1 (rtl kk n k f g).2.2 (stl c k F G).2.1 (stl c k F G).2.2
  | 0, _, _, _, _, h => ⟨rfl, h⟩
  | k + 1, f, g, F, G, h => by
    have e := alk_e h
    simp only [rtl, stl]
    cases hz : allN (fun j => evJ (f (kk j)) && evJ (g (kk j))) n with
    | true =>
      rw [hz] at e
      rw [← e, if_pos rfl, if_pos rfl]
      exact alk_st hd k _ _ _ _ (alk_h hd h hz)
    | false =>
      rw [hz] at e
      rw [← e, if_neg (by decide), if_neg (by decide)]
      exact ⟨rfl, h⟩
theorem sm_0 : smJ 0 = true := by decide
theorem alk_s {f g F G : Nat → Int64} (h : alkS kk κ n c f g F G) : allN (fun j => smJ (f (kk j)) && smJ (g (kk j))) n = allN (fun j => smJ (F j) && smJ (G j)) c := by
  obtain ⟨h1, h2, h3⟩ := h
  rw [Bool.eq_iff_iff, all_iff, all_iff]
  constructor
  · intro z j hj
    obtain ⟨i, hi, e⟩ := h1 j hj
    have := z i hi
    rw [e] at this
    rw [(h3 j hj).1, (h3 j hj).2]
    exact this
  · intro z i hi
    cases hz : nzJ (f (kk i)) (g (kk i)) with
    | true =>
      obtain ⟨j, hj, e⟩ := h2 i hi hz
      have := z j hj
      rw [(h3 j hj).1, (h3 j hj).2, e] at this
      exact this
    | false =>
      have q : f (kk i) = 0 ∧ g (kk i) = 0 := Decidable.byContradiction fun y => by
        unfold nzJ at hz
        rw [decide_eq_true y] at hz
        exact absurd hz (by decide)
      rw [q.1, q.2, sm_0]
      rfl
theorem rtl_off {x : Nat} (hx : ∀ j, j < n → kk j ≠ x) : ∀ k f g, (rtl kk n k f g).2.1 x = f x ∧ (rtl kk n k f g).2.2 x = g x
  | 0, _, _ => ⟨rfl, rfl⟩
  | k + 1, f, g => by
    simp only [rtl]
    by_cases h : allN (fun j => evJ (f (kk j)) && evJ (g (kk j))) n = true
    · rw [if_pos h]
      have := rtl_off hx k (hvF kk f n) (hvF kk g n)
      rw [hvF_o n hx, hvF_o n hx] at this
      exact this
    · rw [if_neg h]
      exact ⟨rfl, rfl⟩
theorem stl_c : ∀ k F G F' G', (∀ j, j < c → F j = F' j ∧ G j = G' j) → (stl c k F G).1 = (stl c k F' G').1 ∧ ∀ j, j < c → (stl c k F G).2.1 j = (stl c k F' G').2.1 j ∧ (stl c k F G).2.2 j = (stl c k F' G').2.2 j
  | 0, _, _, _, _, h => ⟨rfl, h⟩
  | k + 1, F, G, F', G', h => by
    have e : allN (fun j => e1J (F j) (G j)) c = allN (fun j => e1J (F' j) (G' j)) c := by
      rw [Bool.eq_iff_iff, all_iff, all_iff]
      constructor
      · intro z j hj
        rw [← (h j hj).1, ← (h j hj).2]
        exact z j hj
      · intro z j hj
        rw [(h j hj).1, (h j hj).2]
        exact z j hj
    simp only [stl]
    cases hz : allN (fun j => e1J (F j) (G j)) c with
    | true =>
      rw [hz] at e
      rw [← e, if_pos rfl, if_pos rfl]
      refine stl_c k _ _ _ _ fun j hj => ?_
      rw [hqf_i hj, hqf_i hj, hqf_i hj, hqf_i hj, (h j hj).1, (h j hj).2]
      exact ⟨rfl, rfl⟩
    | false =>
      rw [hz] at e
      rw [← e, if_neg (by decide), if_neg (by decide)]
      exact ⟨rfl, h⟩
theorem stOK_c {σ σ' : Nat × (Nat → Int64) × (Nat → Int64)} (h1 : σ.1 = σ'.1) (h : ∀ j, j < c → σ.2.1 j = σ'.2.1 j ∧ σ.2.2 j = σ'.2.2 j) : stOK c σ = stOK c σ' := by
  unfold stOK
  have e : allN (fun j => smJ (σ.2.1 j) && smJ (σ.2.2 j)) c = allN (fun j => smJ (σ'.2.1 j) && smJ (σ'.2.2 j)) c := by
    rw [Bool.eq_iff_iff, all_iff, all_iff]
    constructor
    · intro z j hj
      rw [← (h j hj).1, ← (h j hj).2]
      exact z j hj
    · intro z j hj
      rw [(h j hj).1, (h j hj).2]
      exact z j hj
  rw [h1, e]
end ALK
/-- the keys that have a number, in order -/
def enu (P Q : Nat → Int64) (c : Nat) (κ : Nat → Nat) : Prop := (∀ i j, i < j → j < c → κ i < κ j) ∧ ∀ x, (∃ l, l < c ∧ κ l = x) ↔ x < 65536 ∧ nzJ (P x) (Q x) = true
/-- what is left of them: halved as often as may be -/
def stP (P Q : Nat → Int64) (over c : Nat) (κ : Nat → Nat) : Nat × (Nat → Int64) × (Nat → Int64) := stl c (if c = 0 then 0 else over) (fun l => P (κ l)) (fun l => Q (κ l))
def okN (P Q : Nat → Int64) (over c : Nat) (κ : Nat → Nat) : Bool := decide (c ≤ 150) && stOK c (stP P Q over c κ)
section ENU
variable {P Q f g : Nat → Int64} {kk κ : Nat → Nat} {n c : Nat} {q t : Nat → Int32}
theorem enu_l (he : enu P Q c κ) : ∀ l, l < c → κ l < 65536 ∧ nzJ (P (κ l)) (Q (κ l)) = true := fun l hl => (he.2 _).mp ⟨l, hl, rfl⟩
theorem enu_a (hw : wkO n q t f g kk) (hf : ∀ x, x < 65536 → f x = P x ∧ g x = Q x) (he : enu P Q c κ) : alkS kk κ n c f g (fun l => P (κ l)) (fun l => Q (κ l)) ∧ cntN (fun j => nzJ (f (kk j)) (g (kk j))) n = c := by
  obtain ⟨h1, h2, h3, h4, h5⟩ := hw
  have lt := enu_l he
  obtain ⟨r, m⟩ := he
  have inK : ∀ x, x < 65536 → nzJ (P x) (Q x) = true → ∃ j, j < n ∧ kk j = x := fun x hx hz => by
    rcases mem_dec kk x n with h | h
    · exact h
    · obtain ⟨_, e1, e2⟩ := h5 x hx h
      rw [← (hf x hx).1, ← (hf x hx).2, e1, e2] at hz
      exact absurd hz (by decide)
  have A : alkS kk κ n c f g (fun l => P (κ l)) (fun l => Q (κ l)) := by
    refine ⟨fun j hj => inK _ (lt j hj).1 (lt j hj).2, fun i hi hz => ?_, fun j hj => ⟨(hf _ (lt j hj).1).1.symm, (hf _ (lt j hj).1).2.symm⟩⟩
    rw [(hf _ (h2 i hi).1).1, (hf _ (h2 i hi).1).2] at hz
    exact (m _).mpr ⟨(h2 i hi).1, hz⟩
  refine ⟨A, Nat.le_antisymm (cnn_up n c κ h3 fun j hj hz => A.2.1 j hj hz) (cnn_ge (kk := kk) n c κ (ris_i r) fun l hl => ?_)⟩
  obtain ⟨j, hj, e⟩ := inK _ (lt l hl).1 (lt l hl).2
  refine ⟨j, hj, e, ?_⟩
  rw [e, (hf _ (lt l hl).1).1, (hf _ (lt l hl).1).2]
  exact (lt l hl).2
theorem enu_u {c' : Nat} {κ' : Nat → Nat} (he : enu P Q c κ) (he' : enu P Q c' κ') : c = c' ∧ ∀ j, j < c → κ j = κ' j := by
  have le : ∀ {c c' : Nat} {κ κ' : Nat → Nat}, enu P Q c κ → enu P Q c' κ' → c ≤ c' := fun {c c' κ κ'} h h' => by
    have h1 := cnn_ge (kk := κ') (p := fun _ => true) c' c κ (ris_i h.1) fun l hl => by
      obtain ⟨j, hj, e⟩ := (h'.2 (κ l)).mpr (enu_l h l hl)
      exact ⟨j, hj, e, rfl⟩
    exact Nat.le_trans h1 (cnt_le _ _)
  have e : c = c' := Nat.le_antisymm (le he he') (le he' he)
  subst e
  exact ⟨rfl, ris_eq c he.1 he'.1 fun x => (he.2 x).trans (he'.2 x).symm⟩
end ENU
