/-! ROWS made straight: as lists of rows, without a machine -/
def upR (Y : Nat → RW) (i : Nat) (y : RW) : Nat → RW := fun j => if j = i then y else Y j
def swR (Y : Nat → RW) (a b : Nat) : Nat → RW := fun j => if j = a then Y b else if j = b then Y a else Y j
def fdR (n : Nat) (Y : Nat → RW) (c : Nat) : Nat → Nat → Nat
  | 0, k => k
  | m + 1, k => if hb n (Y k) c = 1 then k else fdR n Y c m (k + 1)
def mlR (n c d : Nat) (Y : Nat → RW) : Nat → Nat → RW
  | 0 => Y
  | i + 1 => if i ≠ d ∧ hb n (mlR n c d Y i i) c = 1 then upR (mlR n c d Y i) i (mulA (mlR n c d Y i i) (mlR n c d Y i d)) else mlR n c d Y i
def stR (n c : Nat) (a : (Nat → RW) × Nat) : (Nat → RW) × Nat := if fdR n a.1 c (n - a.2) a.2 = n then a else (mlR n c a.2 (swR a.1 (fdR n a.1 c (n - a.2) a.2) a.2) n, a.2 + 1)
def rdR (n : Nat) (Y : Nat → RW) : Nat → (Nat → RW) × Nat
  | 0 => (Y, 0)
  | c + 1 => stR n c (rdR n Y c)
def redR (n : Nat) (Y : Nat → RW) : Nat → RW := (rdR n Y (2 * n)).1
theorem fd_p (n : Nat) (Y : Nat → RW) (c : Nat) : ∀ m k, k ≤ fdR n Y c m k ∧ fdR n Y c m k ≤ k + m ∧ (∀ j, k ≤ j → j < fdR n Y c m k → hb n (Y j) c ≠ 1) ∧ (fdR n Y c m k < k + m → hb n (Y (fdR n Y c m k)) c = 1)
  | 0, k => ⟨Nat.le_refl _, Nat.le_refl _, fun j h1 h2 => by have h2 : j < k := h2; omega, fun h => by have h : k < k + 0 := h; omega⟩
  | m + 1, k => by
    have ih := fd_p n Y c m (k + 1)
    show k ≤ (if hb n (Y k) c = 1 then k else fdR n Y c m (k + 1)) ∧ (if hb n (Y k) c = 1 then k else fdR n Y c m (k + 1)) ≤ k + (m + 1) ∧ (∀ j, k ≤ j → j < (if hb n (Y k) c = 1 then k else fdR n Y c m (k + 1)) → hb n (Y j) c ≠ 1) ∧ ((if hb n (Y k) c = 1 then k else fdR n Y c m (k + 1)) < k + (m + 1) → hb n (Y (if hb n (Y k) c = 1 then k else fdR n Y c m (k + 1))) c = 1)
    by_cases h : hb n (Y k) c = 1
    · rw [if_pos h]
      exact ⟨Nat.le_refl _, by omega, fun j h1 h2 => by omega, fun _ => h⟩
    · rw [if_neg h]
      obtain ⟨i1, i2, i3, i4⟩ := ih
      refine ⟨by omega, by omega, fun j h1 h2 => ?_, fun h2 => i4 (by omega)⟩
      by_cases e : j = k
      · rw [e]; exact h
      · exact i3 j (by omega) h2
theorem hb_2 (n : Nat) (y : RW) (c : Nat) : hb n y c < 2 := by
  unfold hb
  split <;> exact bt_lt _ _
theorem hb_m (n : Nat) (y z : RW) (c : Nat) : hb n (mulA y z) c = (hb n y c + hb n z c) % 2 := by
  have k : ∀ a b t, bt (a ^^^ b) t = (bt a t + bt b t) % 2 := fun a b t => by
    rw [bt_xor]
    have h1 := bt_lt a t
    have h2 := bt_lt b t
    generalize bt a t = u at *
    generalize bt b t = v at *
    rcases (by omega : u = 0 ∨ u = 1) with rfl | rfl <;> rcases (by omega : v = 0 ∨ v = 1) with rfl | rfl <;> rfl
  unfold hb mulA
  by_cases h : c < n
  · rw [if_pos h, if_pos h, if_pos h]; exact k _ _ _
  · rw [if_neg h, if_neg h, if_neg h]; exact k _ _ _
/-- one loop's rows: those that had a bit are multiplied by row d -/
theorem ml_p {n c d : Nat} {Y : Nat → RW} : ∀ i j, mlR n c d Y i j = if j < i ∧ j ≠ d ∧ hb n (Y j) c = 1 then mulA (Y j) (Y d) else Y j
  | 0, j => by
    rw [if_neg (by omega)]
    rfl
  | i + 1, j => by
    have hd : mlR n c d Y i d = Y d := by rw [ml_p i d, if_neg (by omega)]
    have hi : mlR n c d Y i i = Y i := by rw [ml_p i i, if_neg (by omega)]
    show (if i ≠ d ∧ hb n (mlR n c d Y i i) c = 1 then upR (mlR n c d Y i) i (mulA (mlR n c d Y i i) (mlR n c d Y i d)) else mlR n c d Y i) j = _
    rw [hd, hi]
    by_cases h : i ≠ d ∧ hb n (Y i) c = 1
    · rw [if_pos h]
      show (if j = i then mulA (Y i) (Y d) else mlR n c d Y i j) = _
      by_cases e : j = i
      · rw [if_pos e, e, if_pos ⟨by omega, h.1, h.2⟩]
      · rw [if_neg e, ml_p i j]
        by_cases q : j < i ∧ j ≠ d ∧ hb n (Y j) c = 1
        · rw [if_pos q, if_pos ⟨by omega, q.2⟩]
        · rw [if_neg q, if_neg (fun z => q ⟨by omega, z.2⟩)]
    · rw [if_neg h, ml_p i j]
      by_cases q : j < i ∧ j ≠ d ∧ hb n (Y j) c = 1
      · rw [if_pos q, if_pos ⟨by omega, q.2⟩]
      · rw [if_neg q, if_neg (fun z => by
          by_cases e : j = i
          · exact h ⟨by rw [← e]; exact z.2.1, by rw [← e]; exact z.2.2⟩
          · exact q ⟨by omega, z.2⟩)]
/-- what stands behind c columns: pivots p, d of them -/
def pvR (n c d : Nat) (p : Nat → Nat) (Y : Nat → RW) : Prop := d ≤ n ∧ (∀ i, i < d → p i < c) ∧ (∀ i, i < d → hb n (Y i) (p i) = 1) ∧ (∀ i j, i < d → j < n → j ≠ i → hb n (Y j) (p i) = 0) ∧ (∀ j t, d ≤ j → j < n → t < c → hb n (Y j) t = 0) ∧ (∀ i t, i < d → t < p i → hb n (Y i) t = 0) ∧ ∀ i j, i < j → j < d → p i < p j
theorem pv_s {n c d : Nat} {p : Nat → Nat} {Y : Nat → RW} (h : pvR n c d p Y) : ∃ p', pvR n (c + 1) (stR n c (Y, d)).2 p' (stR n c (Y, d)).1 := by
  obtain ⟨h1, h2, h3, h4, h5, h6, h7⟩ := h
  have f := fd_p n Y c (n - d) d
  obtain ⟨f1, f2, f3, f4⟩ := f
  unfold stR
  show ∃ p', pvR n (c + 1) (if fdR n Y c (n - d) d = n then (Y, d) else (mlR n c d (swR Y (fdR n Y c (n - d) d) d) n, d + 1)).2 p' (if fdR n Y c (n - d) d = n then (Y, d) else (mlR n c d (swR Y (fdR n Y c (n - d) d) d) n, d + 1)).1
  generalize fdR n Y c (n - d) d = k at *
  by_cases e : k = n
  · rw [if_pos e]
    refine ⟨p, h1, fun i hi => by have := h2 i hi; omega, h3, h4, fun j t hj hn ht => ?_, h6, h7⟩
    by_cases tc : t = c
    · rw [tc]
      show hb n (Y j) c = 0
      have y1 := f3 j hj (by omega)
      have y2 := hb_2 n (Y j) c
      omega
    · exact h5 j t hj hn (by omega)
  · rw [if_neg e]
    have kn : k < n := by omega
    have kb := f4 (by omega)
    -- rows behind the exchange
    have s1 : ∀ j, j < d → swR Y k d j = Y j := fun j hj => by unfold swR; rw [if_neg (by omega), if_neg (by omega)]
    have s2 : ∀ j t, d ≤ j → j < n → t < c → hb n (swR Y k d j) t = 0 := fun j t hj hn ht => by
      unfold swR
      by_cases e1 : j = k
      · rw [if_pos e1]; exact h5 d t (Nat.le_refl _) (by omega) ht
      · rw [if_neg e1]
        by_cases e2 : j = d
        · rw [if_pos e2]; exact h5 k t f1 kn ht
        · rw [if_neg e2]; exact h5 j t hj hn ht
    have s3 : swR Y k d d = Y k := by
      unfold swR
      by_cases e1 : d = k
      · rw [if_pos e1, e1]
      · rw [if_neg e1, if_pos rfl]
    have g : ∀ j t, j < n → t < c → hb n (mlR n c d (swR Y k d) n j) t = hb n (swR Y k d j) t := fun j t hj ht => by
      rw [ml_p]
      by_cases q : j < n ∧ j ≠ d ∧ hb n (swR Y k d j) c = 1
      · rw [if_pos q, hb_m, s2 d t (Nat.le_refl _) (by omega) ht]
        have := hb_2 n (swR Y k d j) t
        omega
      · rw [if_neg q]
    have gc : ∀ j, j < n → j ≠ d → hb n (mlR n c d (swR Y k d) n j) c = 0 := fun j hj hd => by
      rw [ml_p]
      have z := hb_2 n (swR Y k d j) c
      by_cases q : j < n ∧ j ≠ d ∧ hb n (swR Y k d j) c = 1
      · rw [if_pos q, hb_m, q.2.2, s3, kb]
      · rw [if_neg q]
        have : hb n (swR Y k d j) c ≠ 1 := fun y => q ⟨hj, hd, y⟩
        omega
    have gd : mlR n c d (swR Y k d) n d = Y k := by rw [ml_p, if_neg (by omega), s3]
    refine ⟨fun i => if i = d then c else p i, by show d + 1 ≤ n; omega, fun i hi => ?_, fun i hi => ?_, fun i j hi hj hne => ?_, fun j t hj hn ht => ?_, fun i t hi ht => ?_, fun i j hij hj => ?_⟩
    · show (if i = d then c else p i) < c + 1
      have hi : i < d + 1 := hi
      by_cases q : i = d
      · rw [if_pos q]; omega
      · rw [if_neg q]; have := h2 i (by omega); omega
    · have hi : i < d + 1 := hi
      show hb n (mlR n c d (swR Y k d) n i) (if i = d then c else p i) = 1
      by_cases q : i = d
      · rw [if_pos q, q, gd]; exact kb
      · rw [if_neg q, g i _ (by omega) (h2 i (by omega)), s1 i (by omega)]
        exact h3 i (by omega)
    · have hi : i < d + 1 := hi
      show hb n (mlR n c d (swR Y k d) n j) (if i = d then c else p i) = 0
      by_cases q : i = d
      · rw [if_pos q]; exact gc j hj (by omega)
      · rw [if_neg q, g j _ hj (h2 i (by omega))]
        by_cases jd : j < d
        · rw [s1 j jd]; exact h4 i j (by omega) hj hne
        · exact s2 j _ (by omega) hj (h2 i (by omega))
    · have hj : d + 1 ≤ j := hj
      show hb n (mlR n c d (swR Y k d) n j) t = 0
      by_cases tc : t = c
      · rw [tc]; exact gc j hn (by omega)
      · rw [g j t hn (by omega)]; exact s2 j t (by omega) hn (by omega)
    · have hi : i < d + 1 := hi
      have ht : t < (if i = d then c else p i) := ht
      show hb n (mlR n c d (swR Y k d) n i) t = 0
      by_cases q : i = d
      · rw [if_pos q] at ht
        rw [q, g d t (by omega) ht]; exact s2 d t (Nat.le_refl _) (by omega) ht
      · rw [if_neg q] at ht
        have pc := h2 i (by omega)
        rw [g i t (by omega) (by omega), s1 i (by omega)]
        exact h6 i t (by omega) ht
    · have hj : j < d + 1 := hj
      show (if i = d then c else p i) < (if j = d then c else p j)
      rw [if_neg (by omega)]
      by_cases q : j = d
      · rw [if_pos q]; exact h2 i (by omega)
      · rw [if_neg q]; exact h7 i j hij (by omega)
theorem pv_all (n : Nat) (Y : Nat → RW) : ∀ c, ∃ p, pvR n c (rdR n Y c).2 p (rdR n Y c).1
  | 0 => ⟨fun _ => 0, Nat.zero_le _, fun i hi => absurd hi (by show ¬ i < 0; omega), fun i hi => absurd hi (by show ¬ i < 0; omega), fun i j hi => absurd hi (by show ¬ i < 0; omega), fun j t _ _ ht => absurd ht (by omega), fun i t hi => absurd hi (by show ¬ i < 0; omega), fun i j _ hj => absurd hj (by show ¬ j < 0; omega)⟩
  | c + 1 => by
    have ⟨p, h⟩ := pv_all n Y c
    exact pv_s h
theorem sw_s (Y : Nat → RW) (d : Nat) : swR Y d d = Y := funext fun j => by
  unfold swR
  by_cases e : j = d
  · rw [if_pos e, e]
  · rw [if_neg e, if_neg e]
theorem pv_id {n D : Nat} {p : Nat → Nat} {Y : Nat → RW} (h : pvR n (2 * n) D p Y) : ∀ c, c ≤ 2 * n → (rdR n Y c).1 = Y ∧ (rdR n Y c).2 ≤ D ∧ ∀ i, i < D → (i < (rdR n Y c).2 ↔ p i < c)
  | 0, _ => ⟨rfl, Nat.zero_le _, fun i _ => ⟨fun q => absurd q (by show ¬ i < 0; omega), fun q => absurd q (by omega)⟩⟩
  | c + 1, hc => by
    have ⟨i1, i2, i3⟩ := pv_id h c (by omega)
    obtain ⟨h1, h2, h3, h4, h5, h6, h7⟩ := h
    show (stR n c (rdR n Y c)).1 = Y ∧ (stR n c (rdR n Y c)).2 ≤ D ∧ ∀ i, i < D → (i < (stR n c (rdR n Y c)).2 ↔ p i < c + 1)
    have er : rdR n Y c = (Y, (rdR n Y c).2) := Prod.ext i1 rfl
    rw [er]
    generalize (rdR n Y c).2 = d at *
    have f := fd_p n Y c (n - d) d
    obtain ⟨f1, f2, f3, f4⟩ := f
    unfold stR
    show (if fdR n Y c (n - d) d = n then (Y, d) else (mlR n c d (swR Y (fdR n Y c (n - d) d) d) n, d + 1)).1 = Y ∧ (if fdR n Y c (n - d) d = n then (Y, d) else (mlR n c d (swR Y (fdR n Y c (n - d) d) d) n, d + 1)).2 ≤ D ∧ ∀ i, i < D → (i < (if fdR n Y c (n - d) d = n then (Y, d) else (mlR n c d (swR Y (fdR n Y c (n - d) d) d) n, d + 1)).2 ↔ p i < c + 1)
    generalize fdR n Y c (n - d) d = k at *
    by_cases pd : d < D ∧ p d = c
    · obtain ⟨dD, pc⟩ := pd
      have kd : k = d := by
        have b := h3 d dD
        rw [pc] at b
        have : ¬ d < k := fun q => f3 d (Nat.le_refl _) q b
        omega
      rw [if_neg (by omega), kd, sw_s]
      refine ⟨funext fun j => ?_, by show d + 1 ≤ D; omega, fun i hi => ?_⟩
      · show mlR n c d Y n j = Y j
        rw [ml_p]
        by_cases q : j < n ∧ j ≠ d ∧ hb n (Y j) c = 1
        · have z := h4 d j dD q.1 q.2.1
          rw [pc, q.2.2] at z
          omega
        · rw [if_neg q]
      · show i < d + 1 ↔ p i < c + 1
        have w := i3 i hi
        constructor
        · intro q
          by_cases e : i = d
          · rw [e, pc]; omega
          · have := w.mp (by omega); omega
        · intro q
          by_cases e : i = d
          · omega
          · have : i < d ∨ d < i := by omega
            rcases this with y | y
            · omega
            · have := h7 d i y hi
              omega
    · have none : k = n := by
        apply Decidable.byContradiction
        intro e
        have kb := f4 (by omega)
        by_cases kD : k < D
        · have pk : ¬ p k < c := fun q => by
            have := (i3 k kD).mpr q
            omega
          have pkc : p k ≠ c := fun q => by
            by_cases dk : d = k
            · exact pd ⟨by omega, by rw [dk]; exact q⟩
            · have y := h7 d k (by omega) kD
              have dD : d < D := by omega
              have : ¬ p d < c := fun z => by
                have := (i3 d dD).mpr z
                omega
              omega
          have z := h6 k c kD (by omega)
          omega
        · have z := h5 k c (by omega) (by omega) (by omega)
          omega
      rw [if_pos none]
      refine ⟨rfl, i2, fun i hi => ?_⟩
      have w := i3 i hi
      show i < d ↔ p i < c + 1
      constructor
      · intro q
        have := w.mp q
        omega
      · intro q
        by_cases e : p i = c
        · exfalso
          have id' : ¬ i < d := fun y => by have := w.mp y; omega
          by_cases e2 : i = d
          · exact pd ⟨by omega, by rw [← e2]; exact e⟩
          · have dD : d < D := by omega
            have y := h7 d i (by omega) hi
            have := (i3 d dD).mpr (by omega)
            omega
        · exact w.mpr (by omega)
/-- rows that are straight stay as they are -/
theorem red_id (n : Nat) (Y : Nat → RW) : redR n (redR n Y) = redR n Y := by
  have ⟨p, h⟩ := pv_all n Y (2 * n)
  exact (pv_id h (2 * n) (Nat.le_refl _)).1
