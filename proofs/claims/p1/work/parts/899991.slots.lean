/-! one side's table of what is near: slots -/
def hsN (q : Nat) : Nat := q * 2654435761 % 4294967296 / 2097152
theorem hs_lt (q : Nat) : hsN q < 2048 := by unfold hsN; omega
def sl (T : Nat → Nat) (q : Nat) : Nat → Nat → Nat
  | 0, s => s
  | n + 1, s => if T s = 0 ∨ T s % 16777216 = q then s else sl T q n ((s + 1) % 2048)
def slo (T : Nat → Nat) (q : Nat) : Nat := sl T q 2048 (hsN q)
theorem sl_lt (T : Nat → Nat) (q : Nat) : ∀ n s, s < 2048 → sl T q n s < 2048
  | 0, s, h => h
  | n + 1, s, h => by
    unfold sl
    by_cases c : T s = 0 ∨ T s % 16777216 = q
    · rw [if_pos c]; exact h
    · rw [if_neg c]; exact sl_lt T q n _ (by omega)
theorem slo_lt (T : Nat → Nat) (q : Nat) : slo T q < 2048 := sl_lt T q _ _ (hs_lt q)
theorem sl_ok (T : Nat → Nat) (q : Nat) : ∀ n s, s < 2048 → (∃ k, k < n ∧ T ((s + k) % 2048) = 0) → T (sl T q n s) = 0 ∨ T (sl T q n s) % 16777216 = q
  | 0, s, h, ⟨k, hk, _⟩ => absurd hk (by omega)
  | n + 1, s, h, ⟨k, hk, e⟩ => by
    unfold sl
    by_cases c : T s = 0 ∨ T s % 16777216 = q
    · rw [if_pos c]; exact c
    · rw [if_neg c]
      have k0 : k ≠ 0 := fun z => by
        rw [z, Nat.add_zero, Nat.mod_eq_of_lt h] at e
        exact c (.inl e)
      refine sl_ok T q n _ (by omega) ⟨k - 1, by omega, ?_⟩
      rw [show ((s + 1) % 2048 + (k - 1)) % 2048 = (s + k) % 2048 by omega]
      exact e
theorem slo_ok {T : Nat → Nat} {i : Nat} (hi : i < 2048) (h : T i = 0) (q : Nat) : T (slo T q) = 0 ∨ T (slo T q) % 16777216 = q := by
  have l := hs_lt q
  refine sl_ok T q 2048 _ l ⟨(i + 2048 - hsN q) % 2048, by omega, ?_⟩
  rw [show (hsN q + (i + 2048 - hsN q) % 2048) % 2048 = i by omega]
  exact h
def tu (T : Nat → Nat) (s v : Nat) : Nat → Nat := fun i => if i = s then v else T i
theorem tu_s (T : Nat → Nat) (s v : Nat) : tu T s v s = v := if_pos rfl
theorem tu_n {T : Nat → Nat} {s v i : Nat} (h : i ≠ s) : tu T s v i = T i := if_neg h
theorem sl_tn {T : Nat → Nat} {s v k i : Nat} (hs : T s = 0) (hi : T i ≠ 0) : ∀ n a, sl T k n a = i → sl (tu T s v) k n a = i
  | 0, a, h => h
  | n + 1, a, h => by
    by_cases e : a = s
    · exfalso
      unfold sl at h
      rw [e, if_pos (.inl hs)] at h
      exact hi (h ▸ hs)
    · unfold sl at h ⊢
      rw [tu_n e]
      by_cases c : T a = 0 ∨ T a % 16777216 = k
      · rw [if_pos c] at h ⊢; exact h
      · rw [if_neg c] at h ⊢; exact sl_tn hs hi n _ h
theorem sl_ts {T : Nat → Nat} {s v k : Nat} (hs : T s = 0) (hv : v % 16777216 = k) : ∀ n a, sl T k n a = s → sl (tu T s v) k n a = s
  | 0, a, h => h
  | n + 1, a, h => by
    by_cases e : a = s
    · unfold sl
      rw [e, tu_s, if_pos (.inr hv)]
    · unfold sl at h ⊢
      rw [tu_n e]
      by_cases c : T a = 0 ∨ T a % 16777216 = k
      · rw [if_pos c] at h ⊢; exact h
      · rw [if_neg c] at h ⊢; exact sl_ts hs hv n _ h
/-- counting -/
def cnt (f : Nat → Bool) : Nat → Nat
  | 0 => 0
  | n + 1 => cnt f n + (f n).toNat
theorem cnt_e {f g : Nat → Bool} : ∀ n, (∀ i, i < n → f i = g i) → cnt f n = cnt g n
  | 0, _ => rfl
  | n + 1, h => by
    show cnt f n + (f n).toNat = cnt g n + (g n).toNat
    rw [cnt_e n (fun i hi => h i (by omega)), h n (by omega)]
theorem cnt_u {f g : Nat → Bool} {s : Nat} (h : ∀ i, i ≠ s → f i = g i) (h0 : f s = false) (h1 : g s = true) : ∀ n, s < n → cnt g n = cnt f n + 1
  | 0, hs => absurd hs (by omega)
  | n + 1, hs => by
    show cnt g n + (g n).toNat = cnt f n + (f n).toNat + 1
    by_cases e : n = s
    · rw [e, h0, h1, cnt_e s (fun i hi => (h i (by omega)).symm)]; simp
    · rw [cnt_u h h0 h1 n (by omega), h n e]; omega
theorem cnt_f {f : Nat → Bool} : ∀ n, cnt f n < n → ∃ i, i < n ∧ f i = false
  | 0, h => absurd h (by omega)
  | n + 1, h => by
    have h' : cnt f n + (f n).toNat < n + 1 := h
    cases e : f n
    · exact ⟨n, by omega, e⟩
    · rw [e] at h'
      have ⟨i, h1, h2⟩ := cnt_f (f := f) n (by simp at h'; omega)
      exact ⟨i, by omega, h2⟩
theorem cnt_z {f : Nat → Bool} : ∀ n, (∀ i, i < n → f i = false) → cnt f n = 0
  | 0, _ => rfl
  | n + 1, h => by
    show cnt f n + (f n).toNat = 0
    rw [cnt_z n (fun i hi => h i (by omega)), h n (by omega)]; rfl
/-- its state: entries are permutations with 1 more than their distance; each is where it is looked for -/
def tw (T : Nat → Nat) : Prop := (∀ i, i < 2048 → T i ≠ 0 → ∃ q, isP q ∧ dq q ≤ 3 ∧ T i = q + 16777216 * (dq q + 1)) ∧ (∀ i, i < 2048 → T i ≠ 0 → slo T (T i % 16777216) = i)
def tin (T : Nat → Nat) (q : Nat) : Prop := ∃ i, i < 2048 ∧ T i = q + 16777216 * (dq q + 1)
def vl (T : Nat → Nat) (v : Nat) : Nat → Bool := fun i => decide (T i / 16777216 = v)
def oc (T : Nat → Nat) : Nat → Bool := fun i => decide (T i ≠ 0)
theorem tin_s {T : Nat → Nat} {q : Nat} (w : tw T) (hq : isP q) (h : tin T q) : T (slo T q) = q + 16777216 * (dq q + 1) := by
  have ⟨i, hi, e⟩ := h
  have l := isP_lt hq
  have a := w.2 i hi (by omega)
  rw [e, show (q + 16777216 * (dq q + 1)) % 16777216 = q by omega] at a
  rw [a, e]
theorem tin_n {T : Nat → Nat} {q : Nat} (w : tw T) (hf : ∃ i, i < 2048 ∧ T i = 0) (hq : isP q) (h : ¬ tin T q) : T (slo T q) = 0 := by
  have ⟨i, hi, e⟩ := hf
  rcases slo_ok hi e q with c | c
  · exact c
  · by_cases z : T (slo T q) = 0
    · exact z
    · have ⟨r, h1, h2, h3⟩ := w.1 _ (slo_lt T q) z
      have l := isP_lt h1
      have er : r = q := by omega
      rw [er] at h3
      exact absurd ⟨_, slo_lt T q, h3⟩ h
theorem tw_u {T : Nat → Nat} {q : Nat} (w : tw T) (hq : isP q) (h3 : dq q ≤ 3) (hz : T (slo T q) = 0) : tw (tu T (slo T q) (q + 16777216 * (dq q + 1))) := by
  have l := isP_lt hq
  have ev : (q + 16777216 * (dq q + 1)) % 16777216 = q := by omega
  refine ⟨fun i hi hn => ?_, fun i hi hn => ?_⟩
  · by_cases e : i = slo T q
    · rw [e, tu_s]; exact ⟨q, hq, h3, rfl⟩
    · rw [tu_n e] at hn ⊢; exact w.1 i hi hn
  · by_cases e : i = slo T q
    · rw [e, tu_s, ev]
      exact sl_ts hz ev 2048 _ rfl
    · rw [tu_n e] at hn ⊢
      exact sl_tn hz hn 2048 _ (w.2 i hi hn)
theorem tin_u {T : Nat → Nat} {q : Nat} (hz : T (slo T q) = 0) {r : Nat} (h : tin T r) : tin (tu T (slo T q) (q + 16777216 * (dq q + 1))) r := by
  have ⟨i, hi, e⟩ := h
  refine ⟨i, hi, ?_⟩
  rw [tu_n (fun c => ?_), e]
  rw [c] at e; omega
/-- remembering q at distance v - 1: nothing, if it is there -/
def rem (T : Nat → Nat) (q v : Nat) : Nat → Nat := if T (slo T q) = 0 then tu T (slo T q) (q + 16777216 * v) else T
/-- within phase d, ahead of slot i's gate g: base b -/
def ph (T : Nat → Nat) (d b i g : Nat) : Prop := tw T ∧ (∀ q, isP q → dq q < d → tin T q) ∧ (∀ j, j < 2048 → T j / 16777216 ≤ d + 1) ∧ (∀ j, j < i → j < 2048 → T j / 16777216 = d → ∀ k, k < 12 → tin T (gaN (T j % 16777216) k)) ∧ (T i / 16777216 = d → ∀ k, k < g → tin T (gaN (T i % 16777216) k)) ∧ cnt (oc T) 2048 ≤ b + 12 * cnt (vl T d) i + (if T i / 16777216 = d then g else 0) ∧ cnt (vl T (d + 1)) 2048 ≤ 12 * cnt (vl T d) i + (if T i / 16777216 = d then g else 0)
theorem cnt_m (f : Nat → Bool) : ∀ m n, m ≤ n → cnt f m ≤ cnt f n
  | m, 0, h => by rw [show m = 0 by omega]; exact Nat.le_refl _
  | m, n + 1, h => by
    by_cases e : m = n + 1
    · rw [e]; exact Nat.le_refl _
    · exact Nat.le_trans (cnt_m f m n (by omega)) (Nat.le_add_right _ _)
theorem cnt_1 {f : Nat → Bool} {i n : Nat} (h : f i = true) (hi : i < n) : cnt f i + 1 ≤ cnt f n := by
  have a := cnt_m f (i + 1) n hi
  have b : cnt f (i + 1) = cnt f i + (f i).toNat := rfl
  rw [h] at b
  simp at b; omega
/-- one turn of the inmost loop -/
theorem ph_g {T : Nat → Nat} {d b i g : Nat} (hd : 1 ≤ d) (hd3 : d ≤ 3) (hi : i < 2048) (hg : g < 12) (hb : b + 12 * cnt (vl T d) 2048 ≤ 2047) (h : ph T d b i g) (he : T i / 16777216 = d) : ph (rem T (gaN (T i % 16777216) g) (d + 1)) d b i (g + 1) ∧ cnt (vl (rem T (gaN (T i % 16777216) g) (d + 1)) d) 2048 = cnt (vl T d) 2048 ∧ (rem T (gaN (T i % 16777216) g) (d + 1)) i = T i := by
  have ⟨w, h1, h2, h3, h4, h5, h6⟩ := h
  have nz : T i ≠ 0 := fun c => by rw [c] at he; omega
  have ⟨y, hy, y3, ey⟩ := w.1 i hi nz
  have yl := isP_lt hy
  have e1 : T i % 16777216 = y := by omega
  have e2 : dq y + 1 = d := by omega
  rw [e1]
  have hx := isP_ga hg hy
  have xl := isP_lt hx
  have up := dq_up hy hg
  have c1 : cnt (vl T d) i + 1 ≤ cnt (vl T d) 2048 := cnt_1 (decide_eq_true he) hi
  rw [if_pos he] at h5 h6
  have fr : ∃ j, j < 2048 ∧ T j = 0 := by
    have ⟨j, a, c⟩ := cnt_f (f := oc T) 2048 (by omega)
    exact ⟨j, a, by simpa [oc] using c⟩
  by_cases z : tin T (gaN y g)
  · have q := tin_s w hx z
    have e : rem T (gaN y g) (d + 1) = T := if_neg (by rw [q]; omega)
    rw [e]
    refine ⟨⟨w, h1, h2, h3, fun _ k hk => ?_, ?_, ?_⟩, rfl, rfl⟩
    · by_cases ek : k = g
      · rw [ek, e1]; exact z
      · exact h4 he k (by omega)
    · rw [if_pos he]; omega
    · rw [if_pos he]; omega
  · have q := tin_n w fr hx z
    have dx : dq (gaN y g) = d := by
      have : ¬ dq (gaN y g) < d := fun c => z (h1 _ hx c)
      omega
    have e : rem T (gaN y g) (d + 1) = tu T (slo T (gaN y g)) (gaN y g + 16777216 * (dq (gaN y g) + 1)) := by
      rw [dx]; exact if_pos q
    have il : slo T (gaN y g) < 2048 := slo_lt _ _
    have ni : i ≠ slo T (gaN y g) := fun c => nz (c ▸ q)
    have vs : (gaN y g + 16777216 * (dq (gaN y g) + 1)) / 16777216 = d + 1 := by omega
    rw [e]
    have w' := tw_u w hx (by omega) q
    have tq : ∀ r, tin T r → tin (tu T (slo T (gaN y g)) (gaN y g + 16777216 * (dq (gaN y g) + 1))) r := fun r hr => tin_u q hr
    have tg : tin (tu T (slo T (gaN y g)) (gaN y g + 16777216 * (dq (gaN y g) + 1))) (gaN y g) := ⟨_, il, tu_s _ _ _⟩
    have nv : gaN y g + 16777216 * (dq (gaN y g) + 1) ≠ 0 := by omega
    generalize gaN y g + 16777216 * (dq (gaN y g) + 1) = v at w' tq tg vs nv ⊢
    generalize slo T (gaN y g) = s at w' tq tg q il ni ⊢
    have ca : ∀ n, cnt (vl (tu T s v) d) n = cnt (vl T d) n := fun n => cnt_e n (fun j _ => by
      show decide (tu T s v j / 16777216 = d) = decide (T j / 16777216 = d)
      by_cases ej : j = s
      · rw [ej, tu_s, vs, q, decide_eq_false (by omega), decide_eq_false (by omega)]
      · rw [tu_n ej])
    have co : cnt (oc (tu T s v)) 2048 = cnt (oc T) 2048 + 1 := cnt_u (s := s) (fun j ej => by
      show decide (T j ≠ 0) = decide (tu T s v j ≠ 0)
      rw [tu_n ej]) (by simp [oc, q]) (by
      show decide (tu T s v s ≠ 0) = true
      rw [tu_s]; exact decide_eq_true nv) 2048 il
    have cv : cnt (vl (tu T s v) (d + 1)) 2048 = cnt (vl T (d + 1)) 2048 + 1 := cnt_u (s := s) (fun j ej => by
      show decide (T j / 16777216 = d + 1) = decide (tu T s v j / 16777216 = d + 1)
      rw [tu_n ej]) (by
      show decide (T s / 16777216 = d + 1) = false
      rw [q]; exact decide_eq_false (by omega)) (by
      show decide (tu T s v s / 16777216 = d + 1) = true
      rw [tu_s]; exact decide_eq_true vs) 2048 il
    refine ⟨⟨w', fun r hr hl => tq r (h1 r hr hl), fun j hj => ?_, fun j hj hj2 hv' k hk => ?_, fun _ k hk => ?_, ?_, ?_⟩, ca 2048, tu_n ni⟩
    · by_cases ej : j = s
      · rw [ej, tu_s]; omega
      · rw [tu_n ej]; exact h2 j hj
    · have ej : j ≠ s := fun c => by rw [c, tu_s, vs] at hv'; omega
      rw [tu_n ej] at hv' ⊢
      exact tq _ (h3 j hj hj2 hv' k hk)
    · rw [tu_n ni, e1]
      by_cases ek : k = g
      · rw [ek]; exact tg
      · exact tq _ (e1 ▸ h4 he k (by omega))
    · rw [tu_n ni, if_pos he, ca, co]; omega
    · rw [tu_n ni, if_pos he, ca, cv]; omega
/-- the next slot -/
theorem ph_i {T : Nat → Nat} {d b i g : Nat} (hi : i < 2048) (h : ph T d b i g) (hg : g = 12 ∨ T i / 16777216 ≠ d) : ph T d b (i + 1) 0 := by
  have ⟨w, h1, h2, h3, h4, h5, h6⟩ := h
  have c1 : cnt (vl T d) (i + 1) = cnt (vl T d) i + (vl T d i).toNat := rfl
  have k : (if T i / 16777216 = d then g else 0) ≤ 12 * (vl T d i).toNat := by
    by_cases e : T i / 16777216 = d
    · rw [if_pos e, show vl T d i = true from decide_eq_true e]
      rcases hg with c | c
      · rw [c]; decide
      · exact absurd e c
    · rw [if_neg e]; omega
  refine ⟨w, h1, h2, fun j hj hj2 e m hm => ?_, fun _ m hm => absurd hm (by omega), ?_, ?_⟩
  · by_cases ej : j = i
    · rw [ej] at e ⊢
      rcases hg with c | c
      · exact h4 e m (by omega)
      · exact absurd e c
    · exact h3 j (by omega) hj2 e m hm
  · have : (if T (i + 1) / 16777216 = d then 0 else 0) = 0 := by split <;> rfl
    rw [c1, this]; omega
  · have : (if T (i + 1) / 16777216 = d then 0 else 0) = 0 := by split <;> rfl
    rw [c1, this]; omega
/-- the next phase -/
theorem ph_d {T : Nat → Nat} {d b : Nat} (hd : 1 ≤ d) (hd3 : d ≤ 3) (h : ph T d b 2048 0) (h0 : cnt (vl T d) 2048 ≤ 12 ^ (d - 1)) : tw T ∧ (∀ q, isP q → dq q < d + 1 → tin T q) ∧ (∀ j, j < 2048 → T j / 16777216 ≤ d + 1) ∧ cnt (oc T) 2048 ≤ b + 12 ^ d ∧ cnt (vl T (d + 1)) 2048 ≤ 12 ^ d := by
  have ⟨w, h1, h2, h3, h4, h5, h6⟩ := h
  have z : (if T 2048 / 16777216 = d then 0 else 0) = 0 := by split <;> rfl
  rw [z] at h5 h6
  have e : 12 ^ d = 12 * 12 ^ (d - 1) := by rw [← Nat.pow_succ', show (d - 1).succ = d by omega]
  refine ⟨w, fun q hq hl => ?_, h2, by omega, by omega⟩
  by_cases c : dq q < d
  · exact h1 q hq c
  · have ⟨g, hg, e1⟩ := dq_s hq (by omega)
    have hy := isP_ga hg hq
    have ⟨i, hi, e2⟩ := h1 _ hy (by omega)
    have yl := isP_lt hy
    have a := h3 i hi hi (by rw [e2]; omega) g hg
    rw [e2, show (gaN q g + 16777216 * (dq (gaN q g) + 1)) % 16777216 = gaN q g by omega, ga_i hg (isP_lt hq)] at a
    exact a
theorem ph_0 {T : Nat → Nat} {d b : Nat} (h : tw T ∧ (∀ q, isP q → dq q < d → tin T q) ∧ (∀ j, j < 2048 → T j / 16777216 ≤ d) ∧ cnt (oc T) 2048 ≤ b) : ph T d b 0 0 := by
  have z : (if T 0 / 16777216 = d then 0 else 0) = 0 := by split <;> rfl
  refine ⟨h.1, h.2.1, fun j hj => by have := h.2.2.1 j hj; omega, fun j hj => absurd hj (by omega), fun _ k hk => absurd hk (by omega), ?_, ?_⟩
  · rw [z]; have := h.2.2.2; omega
  · rw [z, cnt_z 2048 (fun j hj => by
      have := h.2.2.1 j hj
      exact decide_eq_false (by omega))]
    omega
/-- the table is learnt -/
def tl (T : Nat → Nat) : Prop := tw T ∧ (∀ q, isP q → dq q < 4 → tin T q) ∧ ∃ i, i < 2048 ∧ T i = 0
def nrN (T : Nat → Nat) (q : Nat) : Nat := T (slo T q) / 16777216
theorem tl_n {T : Nat → Nat} {q : Nat} (h : tl T) (hq : isP q) : nrN T q = if dq q < 4 then dq q + 1 else 0 := by
  have l := isP_lt hq
  unfold nrN
  by_cases c : dq q < 4
  · rw [if_pos c, tin_s h.1 hq (h.2.1 q hq c)]; omega
  · have n : ¬ tin T q := fun ⟨i, hi, e⟩ => by
      have ⟨r, h1, h2, h3⟩ := h.1.1 i hi (by omega)
      have rl := isP_lt h1
      have : r = q := by omega
      rw [this] at h2; omega
    rw [if_neg c, tin_n h.1 h.2.2 hq n]
theorem dq_id : dq idN = 0 := (dq_0 isP_id).2 rfl
/-- the first one -/
theorem ph_s {T : Nat → Nat} (h : ∀ i, i < 2048 → T i = 0) : rem T idN 1 = tu T (slo T idN) (idN + 16777216 * (dq idN + 1)) ∧ tw (rem T idN 1) ∧ (∀ q, isP q → dq q < 1 → tin (rem T idN 1) q) ∧ (∀ j, j < 2048 → (rem T idN 1) j / 16777216 ≤ 1) ∧ cnt (oc (rem T idN 1)) 2048 ≤ 1 ∧ cnt (vl (rem T idN 1) 1) 2048 ≤ 1 := by
  have il := slo_lt T idN
  have q := h _ il
  have e : rem T idN 1 = tu T (slo T idN) (idN + 16777216 * (dq idN + 1)) := by
    rw [dq_id]; exact if_pos q
  rw [e]
  have w0 : tw T := ⟨fun i hi n => absurd (h i hi) n, fun i hi n => absurd (h i hi) n⟩
  have w' := tw_u w0 isP_id (by rw [dq_id]; omega) q
  rw [dq_id] at *
  generalize slo T idN = s at *
  have vs : (idN + 16777216 * (0 + 1)) / 16777216 = 1 := by decide
  refine ⟨rfl, w', fun r hr hl => ⟨s, il, ?_⟩, fun j hj => ?_, ?_, ?_⟩
  · have : r = idN := (dq_0 hr).1 (by omega)
    rw [tu_s, this, dq_id]
  · by_cases ej : j = s
    · rw [ej, tu_s]; decide
    · rw [tu_n ej, h j hj]; decide
  · rw [cnt_u (f := oc T) (s := s) (fun j ej => by
      show decide (T j ≠ 0) = decide (tu T s _ j ≠ 0)
      rw [tu_n ej]) (by simp [oc, q]) (by
      show decide (tu T s _ s ≠ 0) = true
      rw [tu_s]; rfl) 2048 il, cnt_z 2048 (fun j hj => by simp [oc, h j hj])]
    decide
  · rw [cnt_u (f := vl T 1) (s := s) (fun j ej => by
      show decide (T j / 16777216 = 1) = decide (tu T s _ j / 16777216 = 1)
      rw [tu_n ej]) (by simp [vl, q]) (by
      show decide (tu T s _ s / 16777216 = 1) = true
      rw [tu_s]; rfl) 2048 il, cnt_z 2048 (fun j hj => by simp [vl, h j hj])]
    decide
