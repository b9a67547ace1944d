/-! WHAT THE CLASS FINDS, in order: find and settle in common words -/
def fnd (P Q : Nat → Int64) (β n : Nat) (κ : Nat → Nat) (q : Nat → Int32) (f g : Nat → Int64) : Prop := (∀ i j, i < j → j < n → κ i < κ j) ∧ (∀ x, (∃ l, l < n ∧ κ l = x) ↔ x < β ∧ nzJ (P x) (Q x) = true) ∧ ∀ l, l < n → l < 150 → q l = nI (κ l) ∧ f l = P (κ l) ∧ g l = Q (κ l)
theorem or_0 (p r : Int64) : p ||| r = 0 ↔ p = 0 ∧ r = 0 := by
  rw [← Int64.toBitVec_inj, ← Int64.toBitVec_inj, ← Int64.toBitVec_inj]
  show p.toBitVec ||| r.toBitVec = 0#64 ↔ p.toBitVec = 0#64 ∧ r.toBitVec = 0#64
  exact BitVec.or_eq_zero_iff
section FNE
variable {d n β : Nat} {M : mm_M} {q : Nat → Int32} {f g P Q : Nat → Int64} {κ : Nat → Nat}
theorem fnd_0 : fnd P Q 0 0 κ q f g := ⟨fun i j _ hj => absurd hj (Nat.not_lt_zero _), fun x => ⟨fun ⟨l, hl, _⟩ => absurd hl (Nat.not_lt_zero _), fun h => absurd h.1 (Nat.not_lt_zero _)⟩, fun l hl => absurd hl (Nat.not_lt_zero _)⟩
theorem fnd_up {β' : Nat} (h : fnd P Q β n κ q f g) (hb : β ≤ β') (hz : ∀ x, β ≤ x → x < β' → nzJ (P x) (Q x) = false) : fnd P Q β' n κ q f g := by
  refine ⟨h.1, fun x => ?_, h.2.2⟩
  rw [h.2.1]
  constructor
  · rintro ⟨a, b⟩
    exact ⟨by omega, b⟩
  · rintro ⟨a, b⟩
    refine ⟨Nat.lt_of_not_le fun c => ?_, b⟩
    rw [hz x c a] at b
    exact absurd b (by decide)
theorem fnd_s {k : Nat} {q' : Nat → Int32} {f' g' : Nat → Int64} (h : fnd P Q k n κ q f g) (hz : nzJ (P k) (Q k) = true) (h1 : n < 150 → q' = upd q n (nI k) ∧ f' = vp_updL f n (P k) ∧ g' = vp_updL g n (Q k)) (h2 : 150 ≤ n → q' = q ∧ f' = f ∧ g' = g) : fnd P Q (k + 1) (n + 1) (fun l => if l = n then k else κ l) q' f' g' := by
  obtain ⟨r, m, v⟩ := h
  have lt : ∀ l, l < n → κ l < k := fun l hl => ((m _).mp ⟨l, hl, rfl⟩).1
  refine ⟨fun i j hij hj => ?_, fun x => ?_, fun l hl hl2 => ?_⟩
  · dsimp only
    rw [if_neg (by omega)]
    by_cases e : j = n
    · rw [if_pos e]
      exact lt i (by omega)
    · rw [if_neg e]
      exact r i j hij (by omega)
  · constructor
    · rintro ⟨l, hl, e⟩
      dsimp only at e
      by_cases el : l = n
      · rw [if_pos el] at e
        rw [← e]
        exact ⟨by omega, hz⟩
      · rw [if_neg el] at e
        have := (m x).mp ⟨l, by omega, e⟩
        exact ⟨by omega, this.2⟩
    · rintro ⟨a, b⟩
      by_cases ex : x = k
      · exact ⟨n, by omega, by dsimp only; rw [if_pos rfl, ex]⟩
      · obtain ⟨l, hl, e⟩ := (m x).mpr ⟨by omega, b⟩
        exact ⟨l, by omega, by dsimp only; rw [if_neg (by omega)]; exact e⟩
  · dsimp only
    by_cases e : l = n
    · rw [if_pos e]
      obtain ⟨e1, e2, e3⟩ := h1 (by omega)
      rw [e1, e2, e3, e]
      unfold upd vp_updL
      rw [if_pos rfl, if_pos rfl, if_pos rfl]
      exact ⟨rfl, rfl, rfl⟩
    · rw [if_neg e]
      have old := v l (by omega) hl2
      by_cases hn : n < 150
      · obtain ⟨e1, e2, e3⟩ := h1 hn
        rw [e1, e2, e3]
        unfold upd vp_updL
        rw [if_neg e, if_neg e, if_neg e]
        exact old
      · obtain ⟨e1, e2, e3⟩ := h2 (by omega)
        rw [e1, e2, e3]
        exact old
theorem fnd_e (h : fnd P Q β n κ q f g) (hb : β ≤ 65536) (hn : n ≤ 150 → β = 65536) : enX P Q n κ := by
  by_cases c : n ≤ 150
  · have e := hn c
    subst e
    exact Or.inl ⟨h.1, h.2.1⟩
  · refine Or.inr ⟨by omega, h.1, fun l hl => ?_⟩
    have := (h.2.1 _).mp ⟨l, hl, rfl⟩
    exact ⟨by omega, this.2⟩
theorem ct_findR {k : Nat} {p r : Int64} (hF : fnd P Q β n κ q f g) (hk : β ≤ k) (hz : ∀ x, β ≤ x → x < k → nzJ (P x) (Q x) = false) (hp : p = P k) (hr : r = Q k) (hn : n < 2 ^ 29) : am_M (d + 1) false nm_X9_find [aR 83, aI (nI k), aJ p, aJ r] (fF M n q f g) (fun r' M' => r' = .inl none ∧ ∃ n' κ' q' f' g', n' ≤ n + 1 ∧ fnd P Q (k + 1) n' κ' q' f' g' ∧ M' = fF M n' q' f' g') := by
  subst hp
  subst hr
  have h1 := fnd_up hF hk hz
  by_cases h0 : P k ||| Q k = 0
  · refine am_wk (ct_find0 (d := d) h0) ?_
    rintro r' M' ⟨e1, e2⟩
    refine ⟨e1, n, κ, q, f, g, by omega, fnd_up h1 (by omega) fun x a b => ?_, e2⟩
    have ex : x = k := by omega
    rw [ex]
    obtain ⟨z1, z2⟩ := (or_0 _ _).mp h0
    rw [z1, z2]
    rfl
  · have hnz : nzJ (P k) (Q k) = true := decide_eq_true fun z => h0 ((or_0 _ _).mpr z)
    by_cases h150 : n < 150
    · refine am_wk (ct_find1 (d := d) h0 h150) ?_
      rintro r' M' ⟨e1, e2⟩
      exact ⟨e1, n + 1, _, _, _, _, Nat.le_refl _, fnd_s h1 hnz (fun _ => ⟨rfl, rfl, rfl⟩) (fun z => absurd h150 (by omega)), e2⟩
    · refine am_wk (ct_find2 (d := d) h0 (by omega) (by omega)) ?_
      rintro r' M' ⟨e1, e2⟩
      exact ⟨e1, n + 1, _, _, _, _, Nat.le_refl _, fnd_s h1 hnz (fun z => absurd z h150) (fun _ => ⟨rfl, rfl, rfl⟩), e2⟩
/-- what a step of the class's SUMS may change -/
def csF (M M' : mm_M) : Prop := (∀ k, ¬ (83 ≤ k ∧ k ≤ 103) → M'.1 k = M.1 k) ∧ (∀ k, ¬ (99 ≤ k ∧ k ≤ 102) → M'.2 k = M.2 k) ∧ ∀ j, j ≠ 11 → M'.1 83 j = M.1 83 j
theorem csF_r (M : mm_M) : csF M M := ⟨fun _ _ => rfl, fun _ _ => rfl, fun _ _ => rfl⟩
theorem csF_t {M N K : mm_M} (h : csF M N) (h' : csF N K) : csF M K := ⟨fun k a => (h'.1 k a).trans (h.1 k a), fun k a => (h'.2.1 k a).trans (h.2.1 k a), fun j a => (h'.2.2 j a).trans (h.2.2 j a)⟩
theorem csF_i {k : Nat} {v : Nat → Int32} (hk : 83 < k ∧ k ≤ 103) : csF M (mm_i M k v) := by
  refine ⟨fun j a => ?_, fun _ _ => rfl, fun j _ => ?_⟩
  · have h : ¬ j = k := by omega
    simp [mm_i, h]
  · have h : ¬ 83 = k := by omega
    simp [mm_i, h]
theorem csF_l {k : Nat} {v : Nat → Int64} (hk : 99 ≤ k ∧ k ≤ 102) : csF M (mm_l M k v) := by
  refine ⟨fun _ _ => rfl, fun j a => ?_, fun _ _ => rfl⟩
  have h : ¬ j = k := by omega
  simp [mm_l, h]
theorem csF_n : csF M (mm_i M 83 (upd (M.1 83) 11 (nI n))) := by
  refine ⟨fun j a => ?_, fun _ _ => rfl, fun j h => ?_⟩
  · have h : ¬ j = 83 := by omega
    simp [mm_i, h]
  · show upd (M.1 83) 11 (nI n) j = M.1 83 j
    unfold upd
    rw [if_neg h]
theorem csF_fF : csF M (fF M n q f g) := csF_t (csF_t (csF_t csF_n (csF_i (k := 98) (by decide))) (csF_l (k := 99) (by decide))) (csF_l (k := 100) (by decide))
theorem csF_k0 {l : Nat} : csF M (kpA0 M n l) := csF_t (csF_t (csF_t (csF_t (csF_i (k := 85) (by decide)) (csF_i (k := 89) (by decide))) (csF_i (k := 93) (by decide))) (csF_i (k := 96) (by decide))) (csF_i (k := 97) (by decide))
theorem csF_k1 {l : Nat} : csF M (kpA1 M n l) := csF_t (csF_t (csF_t (csF_t (csF_i (k := 86) (by decide)) (csF_i (k := 90) (by decide))) (csF_i (k := 94) (by decide))) (csF_i (k := 96) (by decide))) (csF_i (k := 97) (by decide))
/-- which row is whose; the rows gathered -/
def csG (M M' : mm_M) : Prop := M'.1 84 = M.1 84 ∧ M'.1 88 = M.1 88 ∧ M'.1 92 = M.1 92 ∧ M'.2 101 = M.2 101 ∧ M'.2 102 = M.2 102
/-- what settle leaves -/
def csE (M : mm_M) (a b : Nat) (P Q : Nat → Int64) (over c : Nat) (κ : Nat → Nat) : am_Q := fun r M' => csF M M' ∧ csG M M' ∧ (∀ B, csS M b 1 B → csS M' b 1 B) ∧ ((okN P Q over c κ = true ∧ r = .inl (some (aI 1)) ∧ csS M' a 0 (newS P Q over c κ)) ∨ (okN P Q over c κ = false ∧ r = .inl (some (aI 0)) ∧ ∀ A, csS M a 0 A → csS M' a 0 A))
theorem ct_stlR {over a b : Nat} (hr : sm_r M a b) (ho : over < 2 ^ 30) (hn : n < 2 ^ 30) (hF : fnd P Q β n κ q f g) : am_M (d + 3) false nm_X9_settle [aR 83, aI (nI over)] (fF M n q f g) (csE M a b P Q over n κ) := by
  obtain ⟨hab, ⟨a1, a2, a3⟩, ⟨b1, b2, b3⟩, ⟨c1, c2, c3⟩⟩ := hr
  by_cases h150 : n ≤ 150
  · have hfp : ∀ j, j < n → f j = P (κ j) ∧ g j = Q (κ j) := fun j hj => (hF.2.2 j hj (by omega)).2
    have hq : ∀ j, j < n → q j = nI (κ j) := fun j hj => (hF.2.2 j hj (by omega)).1
    obtain ⟨s1, s2⟩ := stl_c (c := n) (if n = 0 then 0 else over) f g (fun l => P (κ l)) (fun l => Q (κ l)) hfp
    rcases hab with ⟨rfl, rfl⟩ | ⟨rfl, rfl⟩
    · refine am_wk (ct_settle0 (d := d) (M := M) (q := q) (f := f) (g := g) h150 ho a1 b1 c1) ?_
      rintro r M' ⟨σ, hσ, h⟩
      rw [← hσ] at s1 s2
      have s1 : σ.1 = (stP P Q over n κ).1 := s1
      have s2 : ∀ j, j < n → σ.2.1 j = (stP P Q over n κ).2.1 j ∧ σ.2.2 j = (stP P Q over n κ).2.2 j := s2
      have ok : okN P Q over n κ = stOK n σ := by
        unfold okN
        rw [stOK_c s1 s2, decide_eq_true h150]
        rfl
      rcases h with ⟨k1, k2, rfl⟩ | ⟨k1, k2, rfl⟩
      · refine ⟨csF_t csF_fF csF_k0, ⟨rfl, rfl, rfl, rfl, rfl⟩, fun B hB => hB, Or.inl ⟨by rw [ok]; exact k1, k2, rfl, ?_, fun i hi => ?_⟩⟩
        · show nI σ.1 = nI (stP P Q over n κ).1
          rw [s1]
        · have hi : i < n := hi
          show (if i < n then q i else M.1 85 i) = nI (κ i) ∧ (if i < n then (σ.2.1 i).toInt32 else M.1 89 i) = ((stP P Q over n κ).2.1 i).toInt32 ∧ (if i < n then (σ.2.2 i).toInt32 else M.1 93 i) = ((stP P Q over n κ).2.2 i).toInt32
          rw [if_pos hi, if_pos hi, if_pos hi, (s2 i hi).1, (s2 i hi).2]
          exact ⟨hq i hi, rfl, rfl⟩
      · exact ⟨csF_fF, ⟨rfl, rfl, rfl, rfl, rfl⟩, fun B hB => hB, Or.inr ⟨by rw [ok]; exact k1, k2, fun A hA => hA⟩⟩
    · refine am_wk (ct_settle1 (d := d) (M := M) (q := q) (f := f) (g := g) h150 ho a1 b1 c1) ?_
      rintro r M' ⟨σ, hσ, h⟩
      rw [← hσ] at s1 s2
      have s1 : σ.1 = (stP P Q over n κ).1 := s1
      have s2 : ∀ j, j < n → σ.2.1 j = (stP P Q over n κ).2.1 j ∧ σ.2.2 j = (stP P Q over n κ).2.2 j := s2
      have ok : okN P Q over n κ = stOK n σ := by
        unfold okN
        rw [stOK_c s1 s2, decide_eq_true h150]
        rfl
      rcases h with ⟨k1, k2, rfl⟩ | ⟨k1, k2, rfl⟩
      · refine ⟨csF_t csF_fF csF_k1, ⟨rfl, rfl, rfl, rfl, rfl⟩, fun B hB => hB, Or.inl ⟨by rw [ok]; exact k1, k2, rfl, ?_, fun i hi => ?_⟩⟩
        · show nI σ.1 = nI (stP P Q over n κ).1
          rw [s1]
        · have hi : i < n := hi
          show (if i < n then q i else M.1 86 i) = nI (κ i) ∧ (if i < n then (σ.2.1 i).toInt32 else M.1 90 i) = ((stP P Q over n κ).2.1 i).toInt32 ∧ (if i < n then (σ.2.2 i).toInt32 else M.1 94 i) = ((stP P Q over n κ).2.2 i).toInt32
          rw [if_pos hi, if_pos hi, if_pos hi, (s2 i hi).1, (s2 i hi).2]
          exact ⟨hq i hi, rfl, rfl⟩
      · exact ⟨csF_fF, ⟨rfl, rfl, rfl, rfl, rfl⟩, fun B hB => hB, Or.inr ⟨by rw [ok]; exact k1, k2, fun A hA => hA⟩⟩
  · refine am_wk (ct_settleN (d := d + 2) (M := M) (q := q) (f := f) (g := g) (by omega) hn) ?_
    rintro r M' ⟨k2, rfl⟩
    have okf : okN P Q over n κ = false := by
      unfold okN
      rw [decide_eq_false h150]
      rfl
    rcases hab with ⟨rfl, rfl⟩ | ⟨rfl, rfl⟩
    all_goals exact ⟨csF_fF, ⟨rfl, rfl, rfl, rfl, rfl⟩, fun B hB => hB, Or.inr ⟨okf, k2, fun A hA => hA⟩⟩
end FNE
